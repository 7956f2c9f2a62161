set_option maxHeartbeats 4000000 in
set_option maxRecDepth 100000 in
theorem mX8_looks (l : Launch) (D : va_G) (cI cJ cZ cR : ClassId) (q q_persons q_now q_readNeeds q_readPeople q_readQuarrels q_needs q_quarrels q_text q_row q_least q_told q_ways q_then q_isKept q_kept : Nat) (f_readR : Int32) (f_readP : Int32) (f_readQ : Int32) (f_rooms : Int32) (f_people : Int32) (f_pairs : Int32) (f_length : Int32) (f_at : Int32) (f_faultAt : Int32) (f_acts : Int32) (f_next : Int32) (f_seed : Int64) (f_persons : (Nat → Int32)) (f_now : (Nat → Int32)) (x1 : Int32) (x2 : Int32) (rr : Int32) (hf : pX8_looks f_persons f_now x1 x2 = some rr) : gg_M gN vwCl (gg_T cI cJ cZ cR) l D yX8_looks wsX8_looks ({ frames := 0, cells := 0, slots := 0, locals := 0 } : Room) [.ref q, .int x1, .int x2] [(q, .inr (8, [.ref q_readNeeds, .ref q_readPeople, .ref q_readQuarrels, .int f_readR, .int f_readP, .int f_readQ, .ref q_needs, .ref q_persons, .ref q_quarrels, .int f_rooms, .int f_people, .int f_pairs, .ref q_text, .int f_length, .int f_at, .int f_faultAt, .ref q_now, .int f_acts, .int f_next, .ref q_row, .ref q_least, .ref q_told, .ref q_ways, .ref q_then, .long f_seed, .ref q_isKept, .ref q_kept])), (q_persons, .inl (cI, 20, .inl f_persons)), (q_now, .inl (cI, 194, .inl f_now))] (fun _ : Unit => some (.int rr)) (fun _ => [(q, .inr (8, [.ref q_readNeeds, .ref q_readPeople, .ref q_readQuarrels, .int f_readR, .int f_readP, .int f_readQ, .ref q_needs, .ref q_persons, .ref q_quarrels, .int f_rooms, .int f_people, .int f_pairs, .ref q_text, .int f_length, .int f_at, .int f_faultAt, .ref q_now, .int f_acts, .int f_next, .ref q_row, .ref q_least, .ref q_told, .ref q_ways, .ref q_then, .long f_seed, .ref q_isKept, .ref q_kept])), (q_persons, .inl (cI, 20, .inl f_persons)), (q_now, .inl (cI, 194, .inl f_now))]) := by
  refine gg_M.of (cc := cX8_looks) (maxL := 4) (rt := (some .int)) (by decide) rfl (Nat.le_of_ble_eq_true rfl) ?_
  intro p e s m below meth c A args Q hQ hx hb hr hml hts hown hlocks hin hA hS hP hK hD ls hl
  replace hown : s.vm.findClass RX8 = some m.cls := hown
  replace hl : lv_has ls 4 [(0, .ref q), (1, .int x1), (2, .int x2)] := hl
  have k31 := (hts (.fieldLink RX8 31 "AbsentCarpetsModel" "now" "[I") (List.mem_of_getElem? (i := 1) rfl))
  have k22 := (hts (.fieldLink RX8 22 "AbsentCarpetsModel" "persons" "[I") (List.mem_of_getElem? (i := 2) rfl))
  have iX8 : ∀ w ∈ wsX80, w ∈ wsX8_looks := fun _ h => List.mem_cons_of_mem _ (List.mem_append_right _ (h))
  unfold pX8_looks at hf
  refine lv_aload_n hx hb dX8_looks_0 rfl (lv_at hl 0 rfl) ?_
  refine gg_get hx hb hts iX8 hown hK hP 0 rfl rfl 16 (by decide) k31 rfl rfl dX8_looks_1 ?_
  refine lv_bipush (v := (30 : Int32)) hx hb dX8_looks_4 (by decide) ?_
  refine lv_iload_n hx hb dX8_looks_6 rfl (lv_at hl 1 rfl) ?_
  refine lv_imul hx hb dX8_looks_7 ?_
  refine lv_aload_n hx hb dX8_looks_8 rfl (lv_at hl 0 rfl) ?_
  refine gg_get hx hb hts iX8 hown hK hP 0 rfl rfl 16 (by decide) k31 rfl rfl dX8_looks_9 ?_
  refine lv_bipush (v := (90 : Int32)) hx hb dX8_looks_12 (by decide) ?_
  refine lv_iload_n hx hb dX8_looks_14 rfl (lv_at hl 1 rfl) ?_
  refine lv_iadd hx hb dX8_looks_15 ?_
  refine gg_iald hx hb hK hP 2 0 rfl rfl dX8_looks_16 hf (fun hf => ?_)
  refine lv_iadd hx hb dX8_looks_17 ?_
  refine lv_iconst (v := (1 : Int32)) hx hb dX8_looks_18 (by decide) ?_
  refine lv_isub hx hb dX8_looks_19 ?_
  refine lv_iload_n hx hb dX8_looks_20 rfl (lv_at hl 2 rfl) ?_
  refine lv_isub hx hb dX8_looks_21 ?_
  refine gg_iald hx hb hK hP 2 0 rfl rfl dX8_looks_22 hf (fun hf => ?_)
  refine gg_topi hf (fun v3 hf => ?_)
  refine lv_istore_n (lv' := [(3, .int v3), (0, .ref q), (1, .int x1), (2, .int x2)]) hx hb dX8_looks_23 rfl hl (by decide) rfl (fun ls hl => ?_)
  refine lv_iconst (v := (2 : Int32)) hx hb dX8_looks_24 (by decide) ?_
  refine lv_aload_n hx hb dX8_looks_25 rfl (lv_at hl 1 rfl) ?_
  refine gg_get hx hb hts iX8 hown hK hP 0 rfl rfl 7 (by decide) k22 rfl rfl dX8_looks_26 ?_
  refine lv_iconst (v := (4 : Int32)) hx hb dX8_looks_29 (by decide) ?_
  refine lv_iload_n hx hb dX8_looks_30 rfl (lv_at hl 0 rfl) ?_
  refine lv_iconst (v := (2 : Int32)) hx hb dX8_looks_31 (by decide) ?_
  refine lv_idiv hx hb dX8_looks_32 (by decide) ?_
  refine lv_imul hx hb dX8_looks_33 ?_
  refine lv_iconst (v := (1 : Int32)) hx hb dX8_looks_34 (by decide) ?_
  refine lv_iadd hx hb dX8_looks_35 ?_
  refine gg_iald hx hb hK hP 1 0 rfl rfl dX8_looks_36 hf (fun hf => ?_)
  refine lv_imul hx hb dX8_looks_37 ?_
  refine lv_iload_n hx hb dX8_looks_38 rfl (lv_at hl 0 rfl) ?_
  refine lv_iconst (v := (2 : Int32)) hx hb dX8_looks_39 (by decide) ?_
  refine lv_irem hx hb dX8_looks_40 (by decide) ?_
  refine lv_iadd hx hb dX8_looks_41 ?_
  cases hf
  rw [hQ]
  exact gg_iret hx hb hr hlocks hS (Nat.le_of_ble_eq_true rfl) (Nat.le_of_ble_eq_true rfl) dX8_looks_42 () rfl hP hD
set_option maxHeartbeats 4000000 in
set_option maxRecDepth 100000 in
theorem mX8_fringe (l : Launch) (D : va_G) (cI cJ cZ cR : ClassId) (q q_persons q_now q_readNeeds q_readPeople q_readQuarrels q_needs q_quarrels q_text q_row q_least q_told q_ways q_then q_isKept q_kept : Nat) (f_readR : Int32) (f_readP : Int32) (f_readQ : Int32) (f_rooms : Int32) (f_people : Int32) (f_pairs : Int32) (f_length : Int32) (f_at : Int32) (f_faultAt : Int32) (f_acts : Int32) (f_next : Int32) (f_seed : Int64) (f_persons : (Nat → Int32)) (f_now : (Nat → Int32)) (x1 : Int32) (x2 : Int32) (rr : Int32) (hf : pX8_fringe f_rooms f_persons f_now x1 x2 = some rr) : gg_M gN vwCl (gg_T cI cJ cZ cR) l D yX8_fringe wsX8_fringe ({ frames := 2, cells := 0, slots := 0, locals := 46 } : Room) [.ref q, .int x1, .int x2] [(q, .inr (8, [.ref q_readNeeds, .ref q_readPeople, .ref q_readQuarrels, .int f_readR, .int f_readP, .int f_readQ, .ref q_needs, .ref q_persons, .ref q_quarrels, .int f_rooms, .int f_people, .int f_pairs, .ref q_text, .int f_length, .int f_at, .int f_faultAt, .ref q_now, .int f_acts, .int f_next, .ref q_row, .ref q_least, .ref q_told, .ref q_ways, .ref q_then, .long f_seed, .ref q_isKept, .ref q_kept])), (q_persons, .inl (cI, 20, .inl f_persons)), (q_now, .inl (cI, 194, .inl f_now))] (fun _ : Unit => some (.int rr)) (fun _ => [(q, .inr (8, [.ref q_readNeeds, .ref q_readPeople, .ref q_readQuarrels, .int f_readR, .int f_readP, .int f_readQ, .ref q_needs, .ref q_persons, .ref q_quarrels, .int f_rooms, .int f_people, .int f_pairs, .ref q_text, .int f_length, .int f_at, .int f_faultAt, .ref q_now, .int f_acts, .int f_next, .ref q_row, .ref q_least, .ref q_told, .ref q_ways, .ref q_then, .long f_seed, .ref q_isKept, .ref q_kept])), (q_persons, .inl (cI, 20, .inl f_persons)), (q_now, .inl (cI, 194, .inl f_now))]) := by
  refine gg_M.of (cc := cX8_fringe) (maxL := 5) (rt := (some .int)) (by decide) rfl (Nat.le_of_ble_eq_true rfl) ?_
  intro p e s m below meth c A args Q hQ hx hb hr hml hts hown hlocks hin hA hS hP hK hD ls hl
  replace hown : s.vm.findClass RX8 = some m.cls := hown
  replace hl : lv_has ls 5 [(0, .ref q), (1, .int x1), (2, .int x2)] := hl
  have k31 := (hts (.fieldLink RX8 31 "AbsentCarpetsModel" "now" "[I") (List.mem_of_getElem? (i := 1) rfl))
  have iX8 : ∀ w ∈ wsX80, w ∈ wsX8_fringe := fun _ h => List.mem_cons_of_mem _ (List.mem_append_right _ (h))
  have L72 : ∀ (y10 : Int32) (y11 : Int32) (y12 : Int32) (y14 : Int32), (∀ (H : Heap) (locs : List Loc) (ls : Array Slot), va_P D vwCl [(q, .inr (8, [.ref q_readNeeds, .ref q_readPeople, .ref q_readQuarrels, .int f_readR, .int f_readP, .int f_readQ, .ref q_needs, .ref q_persons, .ref q_quarrels, .int f_rooms, .int f_people, .int f_pairs, .ref q_text, .int f_length, .int f_at, .int f_faultAt, .ref q_now, .int f_acts, .int f_next, .ref q_row, .ref q_least, .ref q_told, .ref q_ways, .ref q_then, .long f_seed, .ref q_isKept, .ref q_kept])), (q_persons, .inl (cI, 20, .inl f_persons)), (q_now, .inl (cI, 194, .inl f_now))] H → va_D A [(q, .inr (8, [.ref q_readNeeds, .ref q_readPeople, .ref q_readQuarrels, .int f_readR, .int f_readP, .int f_readQ, .ref q_needs, .ref q_persons, .ref q_quarrels, .int f_rooms, .int f_people, .int f_pairs, .ref q_text, .int f_length, .int f_at, .int f_faultAt, .ref q_now, .int f_acts, .int f_next, .ref q_row, .ref q_least, .ref q_told, .ref q_ways, .ref q_then, .long f_seed, .ref q_isKept, .ref q_kept])), (q_persons, .inl (cI, 20, .inl f_persons)), (q_now, .inl (cI, 194, .inl f_now))] → va_S A s.heap H locs → lv_has ls 5 [(3, .int y14)] → W p l e ({ frames := 2, cells := 0, slots := 0, locals := 46 } : Room) s m args below meth c H locs 0 0 Q (F0 m 99 ls [])) → ∀ (nlp : Nat) (y13 : Int32), gg_lpF (fun (s : (Int32)) => pX8_fringe_L72 f_rooms f_persons f_now y10 y11 y12 s) nlp y13 = some y14 → ∀ (H : Heap) (locs : List Loc) (ls : Array Slot), va_P D vwCl [(q, .inr (8, [.ref q_readNeeds, .ref q_readPeople, .ref q_readQuarrels, .int f_readR, .int f_readP, .int f_readQ, .ref q_needs, .ref q_persons, .ref q_quarrels, .int f_rooms, .int f_people, .int f_pairs, .ref q_text, .int f_length, .int f_at, .int f_faultAt, .ref q_now, .int f_acts, .int f_next, .ref q_row, .ref q_least, .ref q_told, .ref q_ways, .ref q_then, .long f_seed, .ref q_isKept, .ref q_kept])), (q_persons, .inl (cI, 20, .inl f_persons)), (q_now, .inl (cI, 194, .inl f_now))] H → va_D A [(q, .inr (8, [.ref q_readNeeds, .ref q_readPeople, .ref q_readQuarrels, .int f_readR, .int f_readP, .int f_readQ, .ref q_needs, .ref q_persons, .ref q_quarrels, .int f_rooms, .int f_people, .int f_pairs, .ref q_text, .int f_length, .int f_at, .int f_faultAt, .ref q_now, .int f_acts, .int f_next, .ref q_row, .ref q_least, .ref q_told, .ref q_ways, .ref q_then, .long f_seed, .ref q_isKept, .ref q_kept])), (q_persons, .inl (cI, 20, .inl f_persons)), (q_now, .inl (cI, 194, .inl f_now))] → va_S A s.heap H locs → lv_has ls 5 [(0, .ref q), (1, .int y10), (2, .int y11), (3, .int y13), (4, .int y12)] → W p l e ({ frames := 2, cells := 0, slots := 0, locals := 46 } : Room) s m args below meth c H locs 0 0 Q (F0 m 72 ls []) := by
    intro y10 y11 y12 y14 hE nlp
    induction nlp with
    | zero => intro y13 hf; cases hf
    | succ nlp ih =>
      intro y13 hf H locs ls hP hD hS hl
      obtain ⟨zz, hz, hzE, hzN⟩ := gg_lpF_x hf
      replace hf : pX8_fringe_L72 f_rooms f_persons f_now y10 y11 y12 y13 = some zz := hz
      unfold pX8_fringe_L72 at hf
      refine lv_iload_n hx hb dX8_fringe_72 rfl (lv_at hl 3 rfl) ?_
      refine lv_iload hx hb dX8_fringe_73 (lv_at hl 4 rfl) ?_
      refine lv_icmp_ge (tgt := 99) hx hb dX8_fringe_75 (by decide) (fun hc => ?_) (fun hc => ?_)
      · replace hf := gg_pos hf hc
        have hq := hzE _ (Option.some.inj hf).symm
        cases hq
        exact hE _ _ _ hP hD hS (lv_sub hl [3] rfl)
      · replace hf := gg_neg hf hc
        refine lv_aload_n hx hb dX8_fringe_78 rfl (lv_at hl 0 rfl) ?_
        refine lv_iload_n hx hb dX8_fringe_79 rfl (lv_at hl 1 rfl) ?_
        refine lv_iload_n hx hb dX8_fringe_80 rfl (lv_at hl 3 rfl) ?_
        obtain ⟨r15, hu, hf⟩ := gg_c1_x hf
        refine gg_callV (wr := []) (w2 := fun _ => [(q, .inr (8, [.ref q_readNeeds, .ref q_readPeople, .ref q_readQuarrels, .int f_readR, .int f_readP, .int f_readQ, .ref q_needs, .ref q_persons, .ref q_quarrels, .int f_rooms, .int f_people, .int f_pairs, .ref q_text, .int f_length, .int f_at, .int f_faultAt, .ref q_now, .int f_acts, .int f_next, .ref q_row, .ref q_least, .ref q_told, .ref q_ways, .ref q_then, .long f_seed, .ref q_isKept, .ref q_kept])), (q_persons, .inl (cI, 20, .inl f_persons)), (q_now, .inl (cI, 194, .inl f_now))]) ⟨hx, hb, hml, hown, hts⟩ (mX8_looks l D cI cJ cZ cR q q_persons q_now q_readNeeds q_readPeople q_readQuarrels q_needs q_quarrels q_text q_row q_least q_told q_ways q_then q_isKept q_kept f_readR f_readP f_readQ f_rooms f_people f_pairs f_length f_at f_faultAt f_acts f_next f_seed f_persons f_now _ _ r15 hu) (cwV 2 hts gX8_fringe_X8_looks rfl rfl rfl (by decide +kernel) ⟨Nat.le_of_ble_eq_true rfl, Nat.le_of_ble_eq_true rfl⟩) hK hP hD hS hA 0 rfl rfl rfl rfl hl.1 rfl (Nat.le_of_ble_eq_true rfl) dX8_fringe_81 ⟨Nat.le_of_ble_eq_true rfl, Nat.le_of_ble_eq_true rfl⟩ [0, 1, 2] [] rfl rfl rfl rfl rfl [0, 1, 2] rfl (fun _ => rfl) (fun _ H locs hP hD hS => ?_)
        refine gg_st_i ?_
        refine lv_aload_n hx hb dX8_fringe_84 rfl (lv_at hl 0 rfl) ?_
        refine lv_iload_n hx hb dX8_fringe_85 rfl (lv_at hl 2 rfl) ?_
        refine lv_iload_n hx hb dX8_fringe_86 rfl (lv_at hl 3 rfl) ?_
        obtain ⟨r16, hu, hf⟩ := gg_c1_x hf
        refine gg_callV (wr := []) (w2 := fun _ => [(q, .inr (8, [.ref q_readNeeds, .ref q_readPeople, .ref q_readQuarrels, .int f_readR, .int f_readP, .int f_readQ, .ref q_needs, .ref q_persons, .ref q_quarrels, .int f_rooms, .int f_people, .int f_pairs, .ref q_text, .int f_length, .int f_at, .int f_faultAt, .ref q_now, .int f_acts, .int f_next, .ref q_row, .ref q_least, .ref q_told, .ref q_ways, .ref q_then, .long f_seed, .ref q_isKept, .ref q_kept])), (q_persons, .inl (cI, 20, .inl f_persons)), (q_now, .inl (cI, 194, .inl f_now))]) ⟨hx, hb, hml, hown, hts⟩ (mX8_looks l D cI cJ cZ cR q q_persons q_now q_readNeeds q_readPeople q_readQuarrels q_needs q_quarrels q_text q_row q_least q_told q_ways q_then q_isKept q_kept f_readR f_readP f_readQ f_rooms f_people f_pairs f_length f_at f_faultAt f_acts f_next f_seed f_persons f_now _ _ r16 hu) (cwV 2 hts gX8_fringe_X8_looks rfl rfl rfl (by decide +kernel) ⟨Nat.le_of_ble_eq_true rfl, Nat.le_of_ble_eq_true rfl⟩) hK hP hD hS hA 0 rfl rfl rfl rfl hl.1 rfl (Nat.le_of_ble_eq_true rfl) dX8_fringe_87 ⟨Nat.le_of_ble_eq_true rfl, Nat.le_of_ble_eq_true rfl⟩ [0, 1, 2] [] rfl rfl rfl rfl rfl [0, 1, 2] rfl (fun _ => rfl) (fun _ H locs hP hD hS => ?_)
        refine gg_st_i ?_
        refine lv_icmp_ne (tgt := 99) hx hb dX8_fringe_90 (by decide) (fun hc => ?_) (fun hc => ?_)
        · replace hf := gg_neg hf hc
          have hq := hzE _ (Option.some.inj hf).symm
          cases hq
          exact hE _ _ _ hP hD hS (lv_sub hl [3] rfl)
        · replace hf := gg_pos hf hc
          refine gg_iinc (cst := (1 : Int32)) (k := 3) (lv' := fun v17 => [(3, .int v17), (0, .ref q), (1, .int y10), (2, .int y11), (4, .int y12)]) hx hb dX8_fringe_93 hl rfl (by decide) (by decide) (fun _ => rfl) hf (fun v17 ls hl hf => ?_)
          refine lv_goto (tgt := 72) hx hb dX8_fringe_96 (by decide) ?_
          exact ih _ (hzN _ (Option.some.inj hf).symm) _ _ _ hP hD hS (lv_sub hl [1, 2, 3, 0, 4] rfl)
  have J70 : ∀ (y6 : Int32) (y7 : Int32) (y8 : Int32) (s9 : Int32) (H : Heap) (locs : List Loc) (ls : Array Slot), pX8_fringe_j70 f_rooms f_persons f_now y6 y7 y8 s9 = some rr → va_P D vwCl [(q, .inr (8, [.ref q_readNeeds, .ref q_readPeople, .ref q_readQuarrels, .int f_readR, .int f_readP, .int f_readQ, .ref q_needs, .ref q_persons, .ref q_quarrels, .int f_rooms, .int f_people, .int f_pairs, .ref q_text, .int f_length, .int f_at, .int f_faultAt, .ref q_now, .int f_acts, .int f_next, .ref q_row, .ref q_least, .ref q_told, .ref q_ways, .ref q_then, .long f_seed, .ref q_isKept, .ref q_kept])), (q_persons, .inl (cI, 20, .inl f_persons)), (q_now, .inl (cI, 194, .inl f_now))] H → va_D A [(q, .inr (8, [.ref q_readNeeds, .ref q_readPeople, .ref q_readQuarrels, .int f_readR, .int f_readP, .int f_readQ, .ref q_needs, .ref q_persons, .ref q_quarrels, .int f_rooms, .int f_people, .int f_pairs, .ref q_text, .int f_length, .int f_at, .int f_faultAt, .ref q_now, .int f_acts, .int f_next, .ref q_row, .ref q_least, .ref q_told, .ref q_ways, .ref q_then, .long f_seed, .ref q_isKept, .ref q_kept])), (q_persons, .inl (cI, 20, .inl f_persons)), (q_now, .inl (cI, 194, .inl f_now))] → va_S A s.heap H locs → lv_has ls 5 [(0, .ref q), (1, .int y6), (2, .int y7), (3, .int y8)] → W p l e ({ frames := 2, cells := 0, slots := 0, locals := 46 } : Room) s m args below meth c H locs 0 0 Q (F0 m 70 ls [.int s9]) := by
    intro y6 y7 y8 s9 H locs ls hf hP hD hS hl
    unfold pX8_fringe_j70 at hf
    refine lv_istore (lv' := [(4, .int s9), (0, .ref q), (1, .int y6), (2, .int y7), (3, .int y8)]) hx hb dX8_fringe_70 hl (by decide) rfl (fun ls hl => ?_)
    obtain ⟨y18, hlp, hf⟩ := gg_c1_x hf
    obtain ⟨nlp, hlp⟩ := gg_lp_x hlp
    refine L72 _ _ _ _ (fun H locs ls hP hD hS hl => ?_) nlp _ hlp _ _ _ hP hD hS (lv_sub hl [1, 2, 3, 4, 0] rfl)
    refine lv_iload_n hx hb dX8_fringe_99 rfl (lv_at hl 0 rfl) ?_
    cases hf
    rw [hQ]
    exact gg_iret hx hb hr hlocks hS (Nat.le_of_ble_eq_true rfl) (Nat.le_of_ble_eq_true rfl) dX8_fringe_100 () rfl hP hD
  unfold pX8_fringe at hf
  refine lv_aload_n hx hb dX8_fringe_0 rfl (lv_at hl 0 rfl) ?_
  refine lv_iload_n hx hb dX8_fringe_1 rfl (lv_at hl 1 rfl) ?_
  obtain ⟨r1, hu, hf⟩ := gg_c1_x hf
  refine gg_callV (wr := [(q_persons, .inl (cI, 20, .inl f_persons)), (q_now, .inl (cI, 194, .inl f_now))]) (w2 := fun _ => [(q, .inr (8, [.ref q_readNeeds, .ref q_readPeople, .ref q_readQuarrels, .int f_readR, .int f_readP, .int f_readQ, .ref q_needs, .ref q_persons, .ref q_quarrels, .int f_rooms, .int f_people, .int f_pairs, .ref q_text, .int f_length, .int f_at, .int f_faultAt, .ref q_now, .int f_acts, .int f_next, .ref q_row, .ref q_least, .ref q_told, .ref q_ways, .ref q_then, .long f_seed, .ref q_isKept, .ref q_kept])), (q_persons, .inl (cI, 20, .inl f_persons)), (q_now, .inl (cI, 194, .inl f_now))]) ⟨hx, hb, hml, hown, hts⟩ (mX8_isRoom l D cI cJ cZ cR q q_readNeeds q_readPeople q_readQuarrels q_needs q_persons q_quarrels q_text q_now q_row q_least q_told q_ways q_then q_isKept q_kept f_readR f_readP f_readQ f_rooms f_people f_pairs f_length f_at f_faultAt f_acts f_next f_seed _ r1 hu) (cwV 1 hts gX8_fringe_X8_isRoom rfl rfl rfl (by decide +kernel) ⟨Nat.le_of_ble_eq_true rfl, Nat.le_of_ble_eq_true rfl⟩) hK hP hD hS hA 0 rfl rfl rfl rfl hl.1 rfl (Nat.le_of_ble_eq_true rfl) dX8_fringe_2 ⟨Nat.le_of_ble_eq_true rfl, Nat.le_of_ble_eq_true rfl⟩ [0] [1, 2] rfl rfl rfl rfl rfl [2, 0, 1] rfl (fun _ => rfl) (fun _ H locs hP hD hS => ?_)
  refine gg_st_i ?_
  refine lv_if_eq (tgt := 16) hx hb dX8_fringe_5 (by decide) (fun hc => ?_) (fun hc => ?_)
  · replace hf := gg_pos hf hc
    refine lv_iconst (v := (-1 : Int32)) hx hb dX8_fringe_16 (by decide) ?_
    cases hf
    rw [hQ]
    exact gg_iret hx hb hr hlocks hS (Nat.le_of_ble_eq_true rfl) (Nat.le_of_ble_eq_true rfl) dX8_fringe_17 () rfl hP hD
  · replace hf := gg_neg hf hc
    refine lv_aload_n hx hb dX8_fringe_8 rfl (lv_at hl 0 rfl) ?_
    refine lv_iload_n hx hb dX8_fringe_9 rfl (lv_at hl 2 rfl) ?_
    obtain ⟨r2, hu, hf⟩ := gg_c1_x hf
    refine gg_callV (wr := [(q_persons, .inl (cI, 20, .inl f_persons)), (q_now, .inl (cI, 194, .inl f_now))]) (w2 := fun _ => [(q, .inr (8, [.ref q_readNeeds, .ref q_readPeople, .ref q_readQuarrels, .int f_readR, .int f_readP, .int f_readQ, .ref q_needs, .ref q_persons, .ref q_quarrels, .int f_rooms, .int f_people, .int f_pairs, .ref q_text, .int f_length, .int f_at, .int f_faultAt, .ref q_now, .int f_acts, .int f_next, .ref q_row, .ref q_least, .ref q_told, .ref q_ways, .ref q_then, .long f_seed, .ref q_isKept, .ref q_kept])), (q_persons, .inl (cI, 20, .inl f_persons)), (q_now, .inl (cI, 194, .inl f_now))]) ⟨hx, hb, hml, hown, hts⟩ (mX8_isRoom l D cI cJ cZ cR q q_readNeeds q_readPeople q_readQuarrels q_needs q_persons q_quarrels q_text q_now q_row q_least q_told q_ways q_then q_isKept q_kept f_readR f_readP f_readQ f_rooms f_people f_pairs f_length f_at f_faultAt f_acts f_next f_seed _ r2 hu) (cwV 1 hts gX8_fringe_X8_isRoom rfl rfl rfl (by decide +kernel) ⟨Nat.le_of_ble_eq_true rfl, Nat.le_of_ble_eq_true rfl⟩) hK hP hD hS hA 0 rfl rfl rfl rfl hl.1 rfl (Nat.le_of_ble_eq_true rfl) dX8_fringe_10 ⟨Nat.le_of_ble_eq_true rfl, Nat.le_of_ble_eq_true rfl⟩ [0] [1, 2] rfl rfl rfl rfl rfl [2, 0, 1] rfl (fun _ => rfl) (fun _ H locs hP hD hS => ?_)
    refine gg_st_i ?_
    refine lv_if_ne (tgt := 18) hx hb dX8_fringe_13 (by decide) (fun hc => ?_) (fun hc => ?_)
    · replace hf := gg_neg hf hc
      refine lv_iload_n hx hb dX8_fringe_18 rfl (lv_at hl 1 rfl) ?_
      refine lv_iload_n hx hb dX8_fringe_19 rfl (lv_at hl 2 rfl) ?_
      refine lv_icmp_ne (tgt := 26) hx hb dX8_fringe_20 (by decide) (fun hc => ?_) (fun hc => ?_)
      · replace hf := gg_neg hf hc
        refine lv_iconst (v := (0 : Int32)) hx hb dX8_fringe_26 (by decide) ?_
        refine lv_istore_n (lv' := [(3, .int (0 : Int32)), (0, .ref q), (1, .int x1), (2, .int x2)]) hx hb dX8_fringe_27 rfl hl (by decide) rfl (fun ls hl => ?_)
        refine lv_aload_n hx hb dX8_fringe_28 rfl (lv_at hl 1 rfl) ?_
        refine gg_get hx hb hts iX8 hown hK hP 0 rfl rfl 16 (by decide) k31 rfl rfl dX8_fringe_29 ?_
        refine lv_bipush (v := (90 : Int32)) hx hb dX8_fringe_32 (by decide) ?_
        refine lv_iload_n hx hb dX8_fringe_34 rfl (lv_at hl 2 rfl) ?_
        refine lv_iadd hx hb dX8_fringe_35 ?_
        refine gg_iald hx hb hK hP 2 0 rfl rfl dX8_fringe_36 hf (fun hf => ?_)
        refine lv_aload_n hx hb dX8_fringe_37 rfl (lv_at hl 1 rfl) ?_
        refine gg_get hx hb hts iX8 hown hK hP 0 rfl rfl 16 (by decide) k31 rfl rfl dX8_fringe_38 ?_
        refine lv_bipush (v := (90 : Int32)) hx hb dX8_fringe_41 (by decide) ?_
        refine lv_iload_n hx hb dX8_fringe_43 rfl (lv_at hl 3 rfl) ?_
        refine lv_iadd hx hb dX8_fringe_44 ?_
        refine gg_iald hx hb hK hP 2 0 rfl rfl dX8_fringe_45 hf (fun hf => ?_)
        refine lv_icmp_ge (tgt := 61) hx hb dX8_fringe_46 (by decide) (fun hc => ?_) (fun hc => ?_)
        · replace hf := gg_pos hf hc
          refine lv_aload_n hx hb dX8_fringe_61 rfl (lv_at hl 1 rfl) ?_
          refine gg_get hx hb hts iX8 hown hK hP 0 rfl rfl 16 (by decide) k31 rfl rfl dX8_fringe_62 ?_
          refine lv_bipush (v := (90 : Int32)) hx hb dX8_fringe_65 (by decide) ?_
          refine lv_iload_n hx hb dX8_fringe_67 rfl (lv_at hl 3 rfl) ?_
          refine lv_iadd hx hb dX8_fringe_68 ?_
          refine gg_iald hx hb hK hP 2 0 rfl rfl dX8_fringe_69 hf (fun hf => ?_)
          exact J70 _ _ _ _ _ _ _ hf hP hD hS (lv_sub hl [1, 2, 3, 0] rfl)
        · replace hf := gg_neg hf hc
          refine lv_aload_n hx hb dX8_fringe_49 rfl (lv_at hl 1 rfl) ?_
          refine gg_get hx hb hts iX8 hown hK hP 0 rfl rfl 16 (by decide) k31 rfl rfl dX8_fringe_50 ?_
          refine lv_bipush (v := (90 : Int32)) hx hb dX8_fringe_53 (by decide) ?_
          refine lv_iload_n hx hb dX8_fringe_55 rfl (lv_at hl 2 rfl) ?_
          refine lv_iadd hx hb dX8_fringe_56 ?_
          refine gg_iald hx hb hK hP 2 0 rfl rfl dX8_fringe_57 hf (fun hf => ?_)
          refine lv_goto (tgt := 70) hx hb dX8_fringe_58 (by decide) ?_
          exact J70 _ _ _ _ _ _ _ hf hP hD hS (lv_sub hl [1, 2, 3, 0] rfl)
      · replace hf := gg_pos hf hc
        refine lv_bipush (v := (-2 : Int32)) hx hb dX8_fringe_23 (by decide) ?_
        cases hf
        rw [hQ]
        exact gg_iret hx hb hr hlocks hS (Nat.le_of_ble_eq_true rfl) (Nat.le_of_ble_eq_true rfl) dX8_fringe_25 () rfl hP hD
    · replace hf := gg_pos hf hc
      refine lv_iconst (v := (-1 : Int32)) hx hb dX8_fringe_16 (by decide) ?_
      cases hf
      rw [hQ]
      exact gg_iret hx hb hr hlocks hS (Nat.le_of_ble_eq_true rfl) (Nat.le_of_ble_eq_true rfl) dX8_fringe_17 () rfl hP hD
set_option maxHeartbeats 4000000 in
set_option maxRecDepth 100000 in
theorem mX8_troubleOf (l : Launch) (D : va_G) (cI cJ cZ cR : ClassId) (q q_persons q_quarrels q_readNeeds q_readPeople q_readQuarrels q_needs q_text q_now q_row q_least q_told q_ways q_then q_isKept q_kept : Nat) (f_readR : Int32) (f_readP : Int32) (f_readQ : Int32) (f_rooms : Int32) (f_people : Int32) (f_pairs : Int32) (f_length : Int32) (f_at : Int32) (f_faultAt : Int32) (f_acts : Int32) (f_next : Int32) (f_seed : Int64) (f_persons : (Nat → Int32)) (f_quarrels : (Nat → Int32)) (x1 : Int32) (rr : Int32) (hf : pX8_troubleOf f_people f_persons f_quarrels x1 = some rr) : gg_M gN vwCl (gg_T cI cJ cZ cR) l D yX8_troubleOf wsX8_troubleOf ({ frames := 0, cells := 0, slots := 0, locals := 0 } : Room) [.ref q, .int x1] [(q, .inr (8, [.ref q_readNeeds, .ref q_readPeople, .ref q_readQuarrels, .int f_readR, .int f_readP, .int f_readQ, .ref q_needs, .ref q_persons, .ref q_quarrels, .int f_rooms, .int f_people, .int f_pairs, .ref q_text, .int f_length, .int f_at, .int f_faultAt, .ref q_now, .int f_acts, .int f_next, .ref q_row, .ref q_least, .ref q_told, .ref q_ways, .ref q_then, .long f_seed, .ref q_isKept, .ref q_kept])), (q_persons, .inl (cI, 20, .inl f_persons)), (q_quarrels, .inl (cI, 25, .inl f_quarrels))] (fun _ : Unit => some (.int rr)) (fun _ => [(q, .inr (8, [.ref q_readNeeds, .ref q_readPeople, .ref q_readQuarrels, .int f_readR, .int f_readP, .int f_readQ, .ref q_needs, .ref q_persons, .ref q_quarrels, .int f_rooms, .int f_people, .int f_pairs, .ref q_text, .int f_length, .int f_at, .int f_faultAt, .ref q_now, .int f_acts, .int f_next, .ref q_row, .ref q_least, .ref q_told, .ref q_ways, .ref q_then, .long f_seed, .ref q_isKept, .ref q_kept])), (q_persons, .inl (cI, 20, .inl f_persons)), (q_quarrels, .inl (cI, 25, .inl f_quarrels))]) := by
  refine gg_M.of (cc := cX8_troubleOf) (maxL := 6) (rt := (some .int)) (by decide) rfl (Nat.le_of_ble_eq_true rfl) ?_
  intro p e s m below meth c A args Q hQ hx hb hr hml hts hown hlocks hin hA hS hP hK hD ls hl
  replace hown : s.vm.findClass RX8 = some m.cls := hown
  replace hl : lv_has ls 6 [(0, .ref q), (1, .int x1)] := hl
  have k111 := (hts (.fieldLink RX8 111 "AbsentCarpetsModel" "people" "I") (List.mem_of_getElem? (i := 1) rfl))
  have k22 := (hts (.fieldLink RX8 22 "AbsentCarpetsModel" "persons" "[I") (List.mem_of_getElem? (i := 2) rfl))
  have k25 := (hts (.fieldLink RX8 25 "AbsentCarpetsModel" "quarrels" "[I") (List.mem_of_getElem? (i := 3) rfl))
  have iX8 : ∀ w ∈ wsX80, w ∈ wsX8_troubleOf := fun _ h => List.mem_cons_of_mem _ (List.mem_append_right _ (h))
  have L53 : ∀ (y14 : Int32) (y15 : Int32) (y16 : Int32) (y19 : Int32), (∀ (H : Heap) (locs : List Loc) (ls : Array Slot), va_P D vwCl [(q, .inr (8, [.ref q_readNeeds, .ref q_readPeople, .ref q_readQuarrels, .int f_readR, .int f_readP, .int f_readQ, .ref q_needs, .ref q_persons, .ref q_quarrels, .int f_rooms, .int f_people, .int f_pairs, .ref q_text, .int f_length, .int f_at, .int f_faultAt, .ref q_now, .int f_acts, .int f_next, .ref q_row, .ref q_least, .ref q_told, .ref q_ways, .ref q_then, .long f_seed, .ref q_isKept, .ref q_kept])), (q_persons, .inl (cI, 20, .inl f_persons)), (q_quarrels, .inl (cI, 25, .inl f_quarrels))] H → va_D A [(q, .inr (8, [.ref q_readNeeds, .ref q_readPeople, .ref q_readQuarrels, .int f_readR, .int f_readP, .int f_readQ, .ref q_needs, .ref q_persons, .ref q_quarrels, .int f_rooms, .int f_people, .int f_pairs, .ref q_text, .int f_length, .int f_at, .int f_faultAt, .ref q_now, .int f_acts, .int f_next, .ref q_row, .ref q_least, .ref q_told, .ref q_ways, .ref q_then, .long f_seed, .ref q_isKept, .ref q_kept])), (q_persons, .inl (cI, 20, .inl f_persons)), (q_quarrels, .inl (cI, 25, .inl f_quarrels))] → va_S A s.heap H locs → lv_has ls 6 [(0, .ref q), (1, .int y14), (2, .int y19), (3, .int y15)] → W p l e ({ frames := 0, cells := 0, slots := 0, locals := 0 } : Room) s m args below meth c H locs 0 0 Q (F0 m 98 ls [])) → ∀ (nlp : Nat) (y17 : Int32) (y18 : Int32), gg_lpF (fun (s : (Int32 × Int32)) => pX8_troubleOf_L53 f_people f_persons f_quarrels y14 y15 y16 s.1 s.2) nlp (y17, y18) = some y19 → ∀ (H : Heap) (locs : List Loc) (ls : Array Slot), va_P D vwCl [(q, .inr (8, [.ref q_readNeeds, .ref q_readPeople, .ref q_readQuarrels, .int f_readR, .int f_readP, .int f_readQ, .ref q_needs, .ref q_persons, .ref q_quarrels, .int f_rooms, .int f_people, .int f_pairs, .ref q_text, .int f_length, .int f_at, .int f_faultAt, .ref q_now, .int f_acts, .int f_next, .ref q_row, .ref q_least, .ref q_told, .ref q_ways, .ref q_then, .long f_seed, .ref q_isKept, .ref q_kept])), (q_persons, .inl (cI, 20, .inl f_persons)), (q_quarrels, .inl (cI, 25, .inl f_quarrels))] H → va_D A [(q, .inr (8, [.ref q_readNeeds, .ref q_readPeople, .ref q_readQuarrels, .int f_readR, .int f_readP, .int f_readQ, .ref q_needs, .ref q_persons, .ref q_quarrels, .int f_rooms, .int f_people, .int f_pairs, .ref q_text, .int f_length, .int f_at, .int f_faultAt, .ref q_now, .int f_acts, .int f_next, .ref q_row, .ref q_least, .ref q_told, .ref q_ways, .ref q_then, .long f_seed, .ref q_isKept, .ref q_kept])), (q_persons, .inl (cI, 20, .inl f_persons)), (q_quarrels, .inl (cI, 25, .inl f_quarrels))] → va_S A s.heap H locs → lv_has ls 6 [(0, .ref q), (1, .int y14), (2, .int y17), (3, .int y15), (4, .int y16), (5, .int y18)] → W p l e ({ frames := 0, cells := 0, slots := 0, locals := 0 } : Room) s m args below meth c H locs 0 0 Q (F0 m 53 ls []) := by
    intro y14 y15 y16 y19 hE nlp
    induction nlp with
    | zero => intro y17 y18 hf; cases hf
    | succ nlp ih =>
      intro y17 y18 hf H locs ls hP hD hS hl
      obtain ⟨zz, hz, hzE, hzN⟩ := gg_lpF_x hf
      replace hf : pX8_troubleOf_L53 f_people f_persons f_quarrels y14 y15 y16 y17 y18 = some zz := hz
      have J90 : ∀ (y20 : Int32) (s21 : Int32) (s22 : Int32) (H : Heap) (locs : List Loc) (ls : Array Slot), pX8_troubleOf_j90 f_people f_persons f_quarrels y14 y15 y16 y20 s21 s22 = some zz → va_P D vwCl [(q, .inr (8, [.ref q_readNeeds, .ref q_readPeople, .ref q_readQuarrels, .int f_readR, .int f_readP, .int f_readQ, .ref q_needs, .ref q_persons, .ref q_quarrels, .int f_rooms, .int f_people, .int f_pairs, .ref q_text, .int f_length, .int f_at, .int f_faultAt, .ref q_now, .int f_acts, .int f_next, .ref q_row, .ref q_least, .ref q_told, .ref q_ways, .ref q_then, .long f_seed, .ref q_isKept, .ref q_kept])), (q_persons, .inl (cI, 20, .inl f_persons)), (q_quarrels, .inl (cI, 25, .inl f_quarrels))] H → va_D A [(q, .inr (8, [.ref q_readNeeds, .ref q_readPeople, .ref q_readQuarrels, .int f_readR, .int f_readP, .int f_readQ, .ref q_needs, .ref q_persons, .ref q_quarrels, .int f_rooms, .int f_people, .int f_pairs, .ref q_text, .int f_length, .int f_at, .int f_faultAt, .ref q_now, .int f_acts, .int f_next, .ref q_row, .ref q_least, .ref q_told, .ref q_ways, .ref q_then, .long f_seed, .ref q_isKept, .ref q_kept])), (q_persons, .inl (cI, 20, .inl f_persons)), (q_quarrels, .inl (cI, 25, .inl f_quarrels))] → va_S A s.heap H locs → lv_has ls 6 [(0, .ref q), (1, .int y14), (3, .int y15), (4, .int y16), (5, .int y20)] → W p l e ({ frames := 0, cells := 0, slots := 0, locals := 0 } : Room) s m args below meth c H locs 0 0 Q (F0 m 90 ls [.int s22, .int s21]) := by
        intro y20 s21 s22 H locs ls hf hP hD hS hl
        unfold pX8_troubleOf_j90 at hf
        refine lv_iadd hx hb dX8_troubleOf_90 ?_
        refine gg_topi hf (fun v23 hf => ?_)
        refine lv_istore_n (lv' := [(2, .int v23), (0, .ref q), (1, .int y14), (3, .int y15), (4, .int y16), (5, .int y20)]) hx hb dX8_troubleOf_91 rfl hl (by decide) rfl (fun ls hl => ?_)
        refine gg_iinc (cst := (1 : Int32)) (k := 5) (lv' := fun v24 => [(5, .int v24), (2, .int v23), (0, .ref q), (1, .int y14), (3, .int y15), (4, .int y16)]) hx hb dX8_troubleOf_92 hl rfl (by decide) (by decide) (fun _ => rfl) hf (fun v24 ls hl hf => ?_)
        refine lv_goto (tgt := 53) hx hb dX8_troubleOf_95 (by decide) ?_
        exact ih _ _ (hzN _ (Option.some.inj hf).symm) _ _ _ hP hD hS (lv_sub hl [2, 3, 1, 4, 5, 0] rfl)
      unfold pX8_troubleOf_L53 at hf
      refine lv_iload hx hb dX8_troubleOf_53 (lv_at hl 5 rfl) ?_
      refine lv_iload_n hx hb dX8_troubleOf_55 rfl (lv_at hl 3 rfl) ?_
      refine lv_icmp_ge (tgt := 98) hx hb dX8_troubleOf_56 (by decide) (fun hc => ?_) (fun hc => ?_)
      · replace hf := gg_pos hf hc
        have hq := hzE _ (Option.some.inj hf).symm
        cases hq
        exact hE _ _ _ hP hD hS (lv_sub hl [0, 1, 2, 3] rfl)
      · replace hf := gg_neg hf hc
        refine lv_iload_n hx hb dX8_troubleOf_59 rfl (lv_at hl 2 rfl) ?_
        refine lv_iload hx hb dX8_troubleOf_60 (lv_at hl 4 rfl) ?_
        refine lv_if_eq (tgt := 89) hx hb dX8_troubleOf_62 (by decide) (fun hc => ?_) (fun hc => ?_)
        · replace hf := gg_pos hf hc
          refine lv_iconst (v := (0 : Int32)) hx hb dX8_troubleOf_89 (by decide) ?_
          exact J90 _ _ _ _ _ _ hf hP hD hS (lv_sub hl [0, 1, 3, 4, 5] rfl)
        · replace hf := gg_neg hf hc
          refine lv_iload_n hx hb dX8_troubleOf_65 rfl (lv_at hl 1 rfl) ?_
          refine lv_iload hx hb dX8_troubleOf_66 (lv_at hl 5 rfl) ?_
          refine lv_ishr hx hb dX8_troubleOf_68 ?_
          refine lv_iconst (v := (1 : Int32)) hx hb dX8_troubleOf_69 (by decide) ?_
          refine lv_iand hx hb dX8_troubleOf_70 ?_
          refine lv_iconst (v := (1 : Int32)) hx hb dX8_troubleOf_71 (by decide) ?_
          refine lv_icmp_ne (tgt := 89) hx hb dX8_troubleOf_72 (by decide) (fun hc => ?_) (fun hc => ?_)
          · replace hf := gg_neg hf hc
            refine lv_iconst (v := (0 : Int32)) hx hb dX8_troubleOf_89 (by decide) ?_
            exact J90 _ _ _ _ _ _ hf hP hD hS (lv_sub hl [0, 1, 3, 4, 5] rfl)
          · replace hf := gg_pos hf hc
            refine lv_aload_n hx hb dX8_troubleOf_75 rfl (lv_at hl 0 rfl) ?_
            refine gg_get hx hb hts iX8 hown hK hP 0 rfl rfl 8 (by decide) k25 rfl rfl dX8_troubleOf_76 ?_
            refine lv_iconst (v := (5 : Int32)) hx hb dX8_troubleOf_79 (by decide) ?_
            refine lv_iload_n hx hb dX8_troubleOf_80 rfl (lv_at hl 3 rfl) ?_
            refine lv_imul hx hb dX8_troubleOf_81 ?_
            refine lv_iload hx hb dX8_troubleOf_82 (lv_at hl 5 rfl) ?_
            refine lv_iadd hx hb dX8_troubleOf_84 ?_
            refine gg_iald hx hb hK hP 2 0 rfl rfl dX8_troubleOf_85 hf (fun hf => ?_)
            refine lv_goto (tgt := 90) hx hb dX8_troubleOf_86 (by decide) ?_
            exact J90 _ _ _ _ _ _ hf hP hD hS (lv_sub hl [0, 1, 3, 4, 5] rfl)
  have L4 : ∀ (y1 : Int32) (y4 : Int32), (∀ (H : Heap) (locs : List Loc) (ls : Array Slot), va_P D vwCl [(q, .inr (8, [.ref q_readNeeds, .ref q_readPeople, .ref q_readQuarrels, .int f_readR, .int f_readP, .int f_readQ, .ref q_needs, .ref q_persons, .ref q_quarrels, .int f_rooms, .int f_people, .int f_pairs, .ref q_text, .int f_length, .int f_at, .int f_faultAt, .ref q_now, .int f_acts, .int f_next, .ref q_row, .ref q_least, .ref q_told, .ref q_ways, .ref q_then, .long f_seed, .ref q_isKept, .ref q_kept])), (q_persons, .inl (cI, 20, .inl f_persons)), (q_quarrels, .inl (cI, 25, .inl f_quarrels))] H → va_D A [(q, .inr (8, [.ref q_readNeeds, .ref q_readPeople, .ref q_readQuarrels, .int f_readR, .int f_readP, .int f_readQ, .ref q_needs, .ref q_persons, .ref q_quarrels, .int f_rooms, .int f_people, .int f_pairs, .ref q_text, .int f_length, .int f_at, .int f_faultAt, .ref q_now, .int f_acts, .int f_next, .ref q_row, .ref q_least, .ref q_told, .ref q_ways, .ref q_then, .long f_seed, .ref q_isKept, .ref q_kept])), (q_persons, .inl (cI, 20, .inl f_persons)), (q_quarrels, .inl (cI, 25, .inl f_quarrels))] → va_S A s.heap H locs → lv_has ls 6 [(2, .int y4)] → W p l e ({ frames := 0, cells := 0, slots := 0, locals := 0 } : Room) s m args below meth c H locs 0 0 Q (F0 m 104 ls [])) → ∀ (nlp : Nat) (y2 : Int32) (y3 : Int32), gg_lpF (fun (s : (Int32 × Int32)) => pX8_troubleOf_L4 f_people f_persons f_quarrels y1 s.1 s.2) nlp (y2, y3) = some y4 → ∀ (H : Heap) (locs : List Loc) (ls : Array Slot), va_P D vwCl [(q, .inr (8, [.ref q_readNeeds, .ref q_readPeople, .ref q_readQuarrels, .int f_readR, .int f_readP, .int f_readQ, .ref q_needs, .ref q_persons, .ref q_quarrels, .int f_rooms, .int f_people, .int f_pairs, .ref q_text, .int f_length, .int f_at, .int f_faultAt, .ref q_now, .int f_acts, .int f_next, .ref q_row, .ref q_least, .ref q_told, .ref q_ways, .ref q_then, .long f_seed, .ref q_isKept, .ref q_kept])), (q_persons, .inl (cI, 20, .inl f_persons)), (q_quarrels, .inl (cI, 25, .inl f_quarrels))] H → va_D A [(q, .inr (8, [.ref q_readNeeds, .ref q_readPeople, .ref q_readQuarrels, .int f_readR, .int f_readP, .int f_readQ, .ref q_needs, .ref q_persons, .ref q_quarrels, .int f_rooms, .int f_people, .int f_pairs, .ref q_text, .int f_length, .int f_at, .int f_faultAt, .ref q_now, .int f_acts, .int f_next, .ref q_row, .ref q_least, .ref q_told, .ref q_ways, .ref q_then, .long f_seed, .ref q_isKept, .ref q_kept])), (q_persons, .inl (cI, 20, .inl f_persons)), (q_quarrels, .inl (cI, 25, .inl f_quarrels))] → va_S A s.heap H locs → lv_has ls 6 [(0, .ref q), (1, .int y1), (2, .int y2), (3, .int y3)] → W p l e ({ frames := 0, cells := 0, slots := 0, locals := 0 } : Room) s m args below meth c H locs 0 0 Q (F0 m 4 ls []) := by
    intro y1 y4 hE nlp
    induction nlp with
    | zero => intro y2 y3 hf; cases hf
    | succ nlp ih =>
      intro y2 y3 hf H locs ls hP hD hS hl
      obtain ⟨zz, hz, hzE, hzN⟩ := gg_lpF_x hf
      replace hf : pX8_troubleOf_L4 f_people f_persons f_quarrels y1 y2 y3 = some zz := hz
      have J48 : ∀ (y9 : Int32) (y10 : Int32) (s11 : Int32) (s12 : Int32) (H : Heap) (locs : List Loc) (ls : Array Slot), pX8_troubleOf_j48 f_people f_persons f_quarrels y1 y9 y10 s11 s12 = some zz → va_P D vwCl [(q, .inr (8, [.ref q_readNeeds, .ref q_readPeople, .ref q_readQuarrels, .int f_readR, .int f_readP, .int f_readQ, .ref q_needs, .ref q_persons, .ref q_quarrels, .int f_rooms, .int f_people, .int f_pairs, .ref q_text, .int f_length, .int f_at, .int f_faultAt, .ref q_now, .int f_acts, .int f_next, .ref q_row, .ref q_least, .ref q_told, .ref q_ways, .ref q_then, .long f_seed, .ref q_isKept, .ref q_kept])), (q_persons, .inl (cI, 20, .inl f_persons)), (q_quarrels, .inl (cI, 25, .inl f_quarrels))] H → va_D A [(q, .inr (8, [.ref q_readNeeds, .ref q_readPeople, .ref q_readQuarrels, .int f_readR, .int f_readP, .int f_readQ, .ref q_needs, .ref q_persons, .ref q_quarrels, .int f_rooms, .int f_people, .int f_pairs, .ref q_text, .int f_length, .int f_at, .int f_faultAt, .ref q_now, .int f_acts, .int f_next, .ref q_row, .ref q_least, .ref q_told, .ref q_ways, .ref q_then, .long f_seed, .ref q_isKept, .ref q_kept])), (q_persons, .inl (cI, 20, .inl f_persons)), (q_quarrels, .inl (cI, 25, .inl f_quarrels))] → va_S A s.heap H locs → lv_has ls 6 [(0, .ref q), (1, .int y1), (3, .int y9), (4, .int y10)] → W p l e ({ frames := 0, cells := 0, slots := 0, locals := 0 } : Room) s m args below meth c H locs 0 0 Q (F0 m 48 ls [.int s12, .int s11]) := by
        intro y9 y10 s11 s12 H locs ls hf hP hD hS hl
        unfold pX8_troubleOf_j48 at hf
        refine lv_iadd hx hb dX8_troubleOf_48 ?_
        refine gg_topi hf (fun v13 hf => ?_)
        refine lv_istore_n (lv' := [(2, .int v13), (0, .ref q), (1, .int y1), (3, .int y9), (4, .int y10)]) hx hb dX8_troubleOf_49 rfl hl (by decide) rfl (fun ls hl => ?_)
        refine lv_iconst (v := (0 : Int32)) hx hb dX8_troubleOf_50 (by decide) ?_
        refine lv_istore (lv' := [(5, .int (0 : Int32)), (2, .int v13), (0, .ref q), (1, .int y1), (3, .int y9), (4, .int y10)]) hx hb dX8_troubleOf_51 hl (by decide) rfl (fun ls hl => ?_)
        obtain ⟨y26, hlp, hf⟩ := gg_c1_x hf
        obtain ⟨nlp, hlp⟩ := gg_lp_x hlp
        refine L53 _ _ _ _ (fun H locs ls hP hD hS hl => ?_) nlp _ _ hlp _ _ _ hP hD hS (lv_sub hl [2, 3, 1, 4, 5, 0] rfl)
        refine gg_iinc (cst := (1 : Int32)) (k := 3) (lv' := fun v27 => [(3, .int v27), (0, .ref q), (1, .int y1), (2, .int y26)]) hx hb dX8_troubleOf_98 hl rfl (by decide) (by decide) (fun _ => rfl) hf (fun v27 ls hl hf => ?_)
        refine lv_goto (tgt := 4) hx hb dX8_troubleOf_101 (by decide) ?_
        exact ih _ _ (hzN _ (Option.some.inj hf).symm) _ _ _ hP hD hS (lv_sub hl [1, 2, 3, 0] rfl)
      have J26 : ∀ (y5 : Int32) (y6 : Int32) (s7 : Int32) (H : Heap) (locs : List Loc) (ls : Array Slot), pX8_troubleOf_j26 f_people f_persons f_quarrels y1 y5 y6 s7 = some zz → va_P D vwCl [(q, .inr (8, [.ref q_readNeeds, .ref q_readPeople, .ref q_readQuarrels, .int f_readR, .int f_readP, .int f_readQ, .ref q_needs, .ref q_persons, .ref q_quarrels, .int f_rooms, .int f_people, .int f_pairs, .ref q_text, .int f_length, .int f_at, .int f_faultAt, .ref q_now, .int f_acts, .int f_next, .ref q_row, .ref q_least, .ref q_told, .ref q_ways, .ref q_then, .long f_seed, .ref q_isKept, .ref q_kept])), (q_persons, .inl (cI, 20, .inl f_persons)), (q_quarrels, .inl (cI, 25, .inl f_quarrels))] H → va_D A [(q, .inr (8, [.ref q_readNeeds, .ref q_readPeople, .ref q_readQuarrels, .int f_readR, .int f_readP, .int f_readQ, .ref q_needs, .ref q_persons, .ref q_quarrels, .int f_rooms, .int f_people, .int f_pairs, .ref q_text, .int f_length, .int f_at, .int f_faultAt, .ref q_now, .int f_acts, .int f_next, .ref q_row, .ref q_least, .ref q_told, .ref q_ways, .ref q_then, .long f_seed, .ref q_isKept, .ref q_kept])), (q_persons, .inl (cI, 20, .inl f_persons)), (q_quarrels, .inl (cI, 25, .inl f_quarrels))] → va_S A s.heap H locs → lv_has ls 6 [(0, .ref q), (1, .int y1), (2, .int y5), (3, .int y6)] → W p l e ({ frames := 0, cells := 0, slots := 0, locals := 0 } : Room) s m args below meth c H locs 0 0 Q (F0 m 26 ls [.int s7]) := by
        intro y5 y6 s7 H locs ls hf hP hD hS hl
        unfold pX8_troubleOf_j26 at hf
        refine lv_istore (lv' := [(4, .int s7), (0, .ref q), (1, .int y1), (2, .int y5), (3, .int y6)]) hx hb dX8_troubleOf_26 hl (by decide) rfl (fun ls hl => ?_)
        refine lv_iload_n hx hb dX8_troubleOf_28 rfl (lv_at hl 3 rfl) ?_
        refine lv_iload hx hb dX8_troubleOf_29 (lv_at hl 0 rfl) ?_
        refine lv_if_eq (tgt := 38) hx hb dX8_troubleOf_31 (by decide) (fun hc => ?_) (fun hc => ?_)
        · replace hf := gg_pos hf hc
          refine lv_aload_n hx hb dX8_troubleOf_38 rfl (lv_at hl 1 rfl) ?_
          refine gg_get hx hb hts iX8 hown hK hP 0 rfl rfl 7 (by decide) k22 rfl rfl dX8_troubleOf_39 ?_
          refine lv_iconst (v := (4 : Int32)) hx hb dX8_troubleOf_42 (by decide) ?_
          refine lv_iload_n hx hb dX8_troubleOf_43 rfl (lv_at hl 4 rfl) ?_
          refine lv_imul hx hb dX8_troubleOf_44 ?_
          refine lv_iconst (v := (2 : Int32)) hx hb dX8_troubleOf_45 (by decide) ?_
          refine lv_iadd hx hb dX8_troubleOf_46 ?_
          refine gg_iald hx hb hK hP 1 0 rfl rfl dX8_troubleOf_47 hf (fun hf => ?_)
          exact J48 _ _ _ _ _ _ _ hf hP hD hS (lv_sub hl [1, 2, 4, 0] rfl)
        · replace hf := gg_neg hf hc
          refine lv_iconst (v := (0 : Int32)) hx hb dX8_troubleOf_34 (by decide) ?_
          refine lv_goto (tgt := 48) hx hb dX8_troubleOf_35 (by decide) ?_
          exact J48 _ _ _ _ _ _ _ hf hP hD hS (lv_sub hl [1, 2, 4, 0] rfl)
      unfold pX8_troubleOf_L4 at hf
      refine lv_iload_n hx hb dX8_troubleOf_4 rfl (lv_at hl 3 rfl) ?_
      refine lv_aload_n hx hb dX8_troubleOf_5 rfl (lv_at hl 0 rfl) ?_
      refine gg_get hx hb hts iX8 hown hK hP 0 rfl rfl 10 (by decide) k111 rfl rfl dX8_troubleOf_6 ?_
      refine lv_icmp_ge (tgt := 104) hx hb dX8_troubleOf_9 (by decide) (fun hc => ?_) (fun hc => ?_)
      · replace hf := gg_pos hf hc
        have hq := hzE _ (Option.some.inj hf).symm
        cases hq
        exact hE _ _ _ hP hD hS (lv_sub hl [2] rfl)
      · replace hf := gg_neg hf hc
        refine lv_iload_n hx hb dX8_troubleOf_12 rfl (lv_at hl 1 rfl) ?_
        refine lv_iload_n hx hb dX8_troubleOf_13 rfl (lv_at hl 3 rfl) ?_
        refine lv_ishr hx hb dX8_troubleOf_14 ?_
        refine lv_iconst (v := (1 : Int32)) hx hb dX8_troubleOf_15 (by decide) ?_
        refine lv_iand hx hb dX8_troubleOf_16 ?_
        refine lv_iconst (v := (1 : Int32)) hx hb dX8_troubleOf_17 (by decide) ?_
        refine lv_icmp_ne (tgt := 25) hx hb dX8_troubleOf_18 (by decide) (fun hc => ?_) (fun hc => ?_)
        · replace hf := gg_neg hf hc
          refine lv_iconst (v := (0 : Int32)) hx hb dX8_troubleOf_25 (by decide) ?_
          exact J26 _ _ _ _ _ _ hf hP hD hS (lv_sub hl [0, 1, 2, 3] rfl)
        · replace hf := gg_pos hf hc
          refine lv_iconst (v := (1 : Int32)) hx hb dX8_troubleOf_21 (by decide) ?_
          refine lv_goto (tgt := 26) hx hb dX8_troubleOf_22 (by decide) ?_
          exact J26 _ _ _ _ _ _ hf hP hD hS (lv_sub hl [0, 1, 2, 3] rfl)
  unfold pX8_troubleOf at hf
  refine lv_iconst (v := (0 : Int32)) hx hb dX8_troubleOf_0 (by decide) ?_
  refine lv_istore_n (lv' := [(2, .int (0 : Int32)), (0, .ref q), (1, .int x1)]) hx hb dX8_troubleOf_1 rfl hl (by decide) rfl (fun ls hl => ?_)
  refine lv_iconst (v := (0 : Int32)) hx hb dX8_troubleOf_2 (by decide) ?_
  refine lv_istore_n (lv' := [(3, .int (0 : Int32)), (2, .int (0 : Int32)), (0, .ref q), (1, .int x1)]) hx hb dX8_troubleOf_3 rfl hl (by decide) rfl (fun ls hl => ?_)
  obtain ⟨y28, hlp, hf⟩ := gg_c1_x hf
  obtain ⟨nlp, hlp⟩ := gg_lp_x hlp
  refine L4 _ _ (fun H locs ls hP hD hS hl => ?_) nlp _ _ hlp _ _ _ hP hD hS (lv_sub hl [2, 3, 1, 0] rfl)
  refine lv_iload_n hx hb dX8_troubleOf_104 rfl (lv_at hl 0 rfl) ?_
  cases hf
  rw [hQ]
  exact gg_iret hx hb hr hlocks hS (Nat.le_of_ble_eq_true rfl) (Nat.le_of_ble_eq_true rfl) dX8_troubleOf_105 () rfl hP hD
set_option maxHeartbeats 4000000 in
set_option maxRecDepth 100000 in
theorem mX8_trouble (l : Launch) (D : va_G) (cI cJ cZ cR : ClassId) (q q_persons q_quarrels q_readNeeds q_readPeople q_readQuarrels q_needs q_text q_now q_row q_least q_told q_ways q_then q_isKept q_kept : Nat) (f_readR : Int32) (f_readP : Int32) (f_readQ : Int32) (f_rooms : Int32) (f_people : Int32) (f_pairs : Int32) (f_length : Int32) (f_at : Int32) (f_faultAt : Int32) (f_acts : Int32) (f_next : Int32) (f_seed : Int64) (f_persons : (Nat → Int32)) (f_quarrels : (Nat → Int32)) (x1 : Int32) (rr : Int32) (hf : pX8_trouble f_people f_persons f_quarrels x1 = some rr) : gg_M gN vwCl (gg_T cI cJ cZ cR) l D yX8_trouble wsX8_trouble ({ frames := 1, cells := 0, slots := 0, locals := 25 } : Room) [.ref q, .int x1] [(q, .inr (8, [.ref q_readNeeds, .ref q_readPeople, .ref q_readQuarrels, .int f_readR, .int f_readP, .int f_readQ, .ref q_needs, .ref q_persons, .ref q_quarrels, .int f_rooms, .int f_people, .int f_pairs, .ref q_text, .int f_length, .int f_at, .int f_faultAt, .ref q_now, .int f_acts, .int f_next, .ref q_row, .ref q_least, .ref q_told, .ref q_ways, .ref q_then, .long f_seed, .ref q_isKept, .ref q_kept])), (q_persons, .inl (cI, 20, .inl f_persons)), (q_quarrels, .inl (cI, 25, .inl f_quarrels))] (fun _ : Unit => some (.int rr)) (fun _ => [(q, .inr (8, [.ref q_readNeeds, .ref q_readPeople, .ref q_readQuarrels, .int f_readR, .int f_readP, .int f_readQ, .ref q_needs, .ref q_persons, .ref q_quarrels, .int f_rooms, .int f_people, .int f_pairs, .ref q_text, .int f_length, .int f_at, .int f_faultAt, .ref q_now, .int f_acts, .int f_next, .ref q_row, .ref q_least, .ref q_told, .ref q_ways, .ref q_then, .long f_seed, .ref q_isKept, .ref q_kept])), (q_persons, .inl (cI, 20, .inl f_persons)), (q_quarrels, .inl (cI, 25, .inl f_quarrels))]) := by
  refine gg_M.of (cc := cX8_trouble) (maxL := 2) (rt := (some .int)) (by decide) rfl (Nat.le_of_ble_eq_true rfl) ?_
  intro p e s m below meth c A args Q hQ hx hb hr hml hts hown hlocks hin hA hS hP hK hD ls hl
  replace hown : s.vm.findClass RX8 = some m.cls := hown
  replace hl : lv_has ls 2 [(0, .ref q), (1, .int x1)] := hl
  have k111 := (hts (.fieldLink RX8 111 "AbsentCarpetsModel" "people" "I") (List.mem_of_getElem? (i := 1) rfl))
  have iX8 : ∀ w ∈ wsX80, w ∈ wsX8_trouble := fun _ h => List.mem_cons_of_mem _ (List.mem_append_right _ (h))
  unfold pX8_trouble at hf
  refine lv_iload_n hx hb dX8_trouble_0 rfl (lv_at hl 1 rfl) ?_
  refine lv_i2l hx hb dX8_trouble_1 rfl ?_
  refine lv_lconst (v := (0 : Int64)) hx hb dX8_trouble_2 (by decide) ?_
  refine lv_iconst (v := (1 : Int32)) hx hb dX8_trouble_3 (by decide) ?_
  refine lv_aload_n hx hb dX8_trouble_4 rfl (lv_at hl 0 rfl) ?_
  refine gg_get hx hb hts iX8 hown hK hP 0 rfl rfl 10 (by decide) k111 rfl rfl dX8_trouble_5 ?_
  refine lv_ishl hx hb dX8_trouble_8 ?_
  refine lv_iconst (v := (1 : Int32)) hx hb dX8_trouble_9 (by decide) ?_
  refine lv_isub hx hb dX8_trouble_10 ?_
  refine lv_i2l hx hb dX8_trouble_11 rfl ?_
  obtain ⟨r1, hu, hf⟩ := gg_c1_x hf
  refine gg_callS (wr := [(q, .inr (8, [.ref q_readNeeds, .ref q_readPeople, .ref q_readQuarrels, .int f_readR, .int f_readP, .int f_readQ, .ref q_needs, .ref q_persons, .ref q_quarrels, .int f_rooms, .int f_people, .int f_pairs, .ref q_text, .int f_length, .int f_at, .int f_faultAt, .ref q_now, .int f_acts, .int f_next, .ref q_row, .ref q_least, .ref q_told, .ref q_ways, .ref q_then, .long f_seed, .ref q_isKept, .ref q_kept])), (q_persons, .inl (cI, 20, .inl f_persons)), (q_quarrels, .inl (cI, 25, .inl f_quarrels))]) (w2 := fun _ => [(q, .inr (8, [.ref q_readNeeds, .ref q_readPeople, .ref q_readQuarrels, .int f_readR, .int f_readP, .int f_readQ, .ref q_needs, .ref q_persons, .ref q_quarrels, .int f_rooms, .int f_people, .int f_pairs, .ref q_text, .int f_length, .int f_at, .int f_faultAt, .ref q_now, .int f_acts, .int f_next, .ref q_row, .ref q_least, .ref q_told, .ref q_ways, .ref q_then, .long f_seed, .ref q_isKept, .ref q_kept])), (q_persons, .inl (cI, 20, .inl f_persons)), (q_quarrels, .inl (cI, 25, .inl f_quarrels))]) ⟨hx, hb, hml, hown, hts⟩ (mX8_in l D cI cJ cZ cR   _ _ _ r1 hu) (va_cwS 3 hts gX8_trouble_X8_in rfl rfl rfl (by decide +kernel) ⟨Nat.le_of_ble_eq_true rfl, Nat.le_of_ble_eq_true rfl⟩) hK hP hD hS hA rfl hl.1 rfl (Nat.le_of_ble_eq_true rfl) dX8_trouble_12 ⟨Nat.le_of_ble_eq_true rfl, Nat.le_of_ble_eq_true rfl⟩ [] [0, 1, 2] rfl rfl rfl rfl rfl [0, 1, 2] rfl (fun _ => rfl) (fun _ H locs hP hD hS => ?_)
  refine gg_st_i ?_
  refine lv_if_eq (tgt := 26) hx hb dX8_trouble_15 (by decide) (fun hc => ?_) (fun hc => ?_)
  · replace hf := gg_pos hf hc
    refine lv_bipush (v := (-2 : Int32)) hx hb dX8_trouble_26 (by decide) ?_
    cases hf
    rw [hQ]
    exact gg_iret hx hb hr hlocks hS (Nat.le_of_ble_eq_true rfl) (Nat.le_of_ble_eq_true rfl) dX8_trouble_28 () rfl hP hD
  · replace hf := gg_neg hf hc
    refine lv_aload_n hx hb dX8_trouble_18 rfl (lv_at hl 0 rfl) ?_
    refine lv_iload_n hx hb dX8_trouble_19 rfl (lv_at hl 1 rfl) ?_
    obtain ⟨r2, hu, hf⟩ := gg_c1_x hf
    refine gg_callV (wr := []) (w2 := fun _ => [(q, .inr (8, [.ref q_readNeeds, .ref q_readPeople, .ref q_readQuarrels, .int f_readR, .int f_readP, .int f_readQ, .ref q_needs, .ref q_persons, .ref q_quarrels, .int f_rooms, .int f_people, .int f_pairs, .ref q_text, .int f_length, .int f_at, .int f_faultAt, .ref q_now, .int f_acts, .int f_next, .ref q_row, .ref q_least, .ref q_told, .ref q_ways, .ref q_then, .long f_seed, .ref q_isKept, .ref q_kept])), (q_persons, .inl (cI, 20, .inl f_persons)), (q_quarrels, .inl (cI, 25, .inl f_quarrels))]) ⟨hx, hb, hml, hown, hts⟩ (mX8_troubleOf l D cI cJ cZ cR q q_persons q_quarrels q_readNeeds q_readPeople q_readQuarrels q_needs q_text q_now q_row q_least q_told q_ways q_then q_isKept q_kept f_readR f_readP f_readQ f_rooms f_people f_pairs f_length f_at f_faultAt f_acts f_next f_seed f_persons f_quarrels _ r2 hu) (cwV 1 hts gX8_trouble_X8_troubleOf rfl rfl rfl (by decide +kernel) ⟨Nat.le_of_ble_eq_true rfl, Nat.le_of_ble_eq_true rfl⟩) hK hP hD hS hA 0 rfl rfl rfl rfl hl.1 rfl (Nat.le_of_ble_eq_true rfl) dX8_trouble_20 ⟨Nat.le_of_ble_eq_true rfl, Nat.le_of_ble_eq_true rfl⟩ [0, 1, 2] [] rfl rfl rfl rfl rfl [0, 1, 2] rfl (fun _ => rfl) (fun _ H locs hP hD hS => ?_)
    refine gg_st_i ?_
    refine lv_goto (tgt := 28) hx hb dX8_trouble_23 (by decide) ?_
    cases hf
    rw [hQ]
    exact gg_iret hx hb hr hlocks hS (Nat.le_of_ble_eq_true rfl) (Nat.le_of_ble_eq_true rfl) dX8_trouble_28 () rfl hP hD
set_option maxHeartbeats 4000000 in
set_option maxRecDepth 100000 in
theorem mX8_behind (l : Launch) (D : va_G) (cI cJ cZ cR : ClassId) (q q_needs q_persons q_readNeeds q_readPeople q_readQuarrels q_quarrels q_text q_now q_row q_least q_told q_ways q_then q_isKept q_kept : Nat) (f_readR : Int32) (f_readP : Int32) (f_readQ : Int32) (f_rooms : Int32) (f_people : Int32) (f_pairs : Int32) (f_length : Int32) (f_at : Int32) (f_faultAt : Int32) (f_acts : Int32) (f_next : Int32) (f_seed : Int64) (f_needs : (Nat → Int32)) (f_persons : (Nat → Int32)) (x1 : Int32) (x2 : Int32) (x3 : Int32) (rr : Int32) (hf : pX8_behind f_people f_needs f_persons x1 x2 x3 = some rr) : gg_M gN vwCl (gg_T cI cJ cZ cR) l D yX8_behind wsX8_behind ({ frames := 0, cells := 0, slots := 0, locals := 0 } : Room) [.ref q, .int x1, .int x2, .int x3] [(q, .inr (8, [.ref q_readNeeds, .ref q_readPeople, .ref q_readQuarrels, .int f_readR, .int f_readP, .int f_readQ, .ref q_needs, .ref q_persons, .ref q_quarrels, .int f_rooms, .int f_people, .int f_pairs, .ref q_text, .int f_length, .int f_at, .int f_faultAt, .ref q_now, .int f_acts, .int f_next, .ref q_row, .ref q_least, .ref q_told, .ref q_ways, .ref q_then, .long f_seed, .ref q_isKept, .ref q_kept])), (q_needs, .inl (cI, 3, .inl f_needs)), (q_persons, .inl (cI, 20, .inl f_persons))] (fun _ : Unit => some (.int rr)) (fun _ => [(q, .inr (8, [.ref q_readNeeds, .ref q_readPeople, .ref q_readQuarrels, .int f_readR, .int f_readP, .int f_readQ, .ref q_needs, .ref q_persons, .ref q_quarrels, .int f_rooms, .int f_people, .int f_pairs, .ref q_text, .int f_length, .int f_at, .int f_faultAt, .ref q_now, .int f_acts, .int f_next, .ref q_row, .ref q_least, .ref q_told, .ref q_ways, .ref q_then, .long f_seed, .ref q_isKept, .ref q_kept])), (q_needs, .inl (cI, 3, .inl f_needs)), (q_persons, .inl (cI, 20, .inl f_persons))]) := by
  refine gg_M.of (cc := cX8_behind) (maxL := 8) (rt := (some .int)) (by decide) rfl (Nat.le_of_ble_eq_true rfl) ?_
  intro p e s m below meth c A args Q hQ hx hb hr hml hts hown hlocks hin hA hS hP hK hD ls hl
  replace hown : s.vm.findClass RX8 = some m.cls := hown
  replace hl : lv_has ls 8 [(0, .ref q), (1, .int x1), (2, .int x2), (3, .int x3)] := hl
  have k111 := (hts (.fieldLink RX8 111 "AbsentCarpetsModel" "people" "I") (List.mem_of_getElem? (i := 1) rfl))
  have k22 := (hts (.fieldLink RX8 22 "AbsentCarpetsModel" "persons" "[I") (List.mem_of_getElem? (i := 2) rfl))
  have k19 := (hts (.fieldLink RX8 19 "AbsentCarpetsModel" "needs" "[I") (List.mem_of_getElem? (i := 3) rfl))
  have iX8 : ∀ w ∈ wsX80, w ∈ wsX8_behind := fun _ h => List.mem_cons_of_mem _ (List.mem_append_right _ (h))
  have L13 : ∀ (y3 : Int32) (y4 : Int32) (y5 : Int32) (y8 : Int32), (∀ (H : Heap) (locs : List Loc) (ls : Array Slot), va_P D vwCl [(q, .inr (8, [.ref q_readNeeds, .ref q_readPeople, .ref q_readQuarrels, .int f_readR, .int f_readP, .int f_readQ, .ref q_needs, .ref q_persons, .ref q_quarrels, .int f_rooms, .int f_people, .int f_pairs, .ref q_text, .int f_length, .int f_at, .int f_faultAt, .ref q_now, .int f_acts, .int f_next, .ref q_row, .ref q_least, .ref q_told, .ref q_ways, .ref q_then, .long f_seed, .ref q_isKept, .ref q_kept])), (q_needs, .inl (cI, 3, .inl f_needs)), (q_persons, .inl (cI, 20, .inl f_persons))] H → va_D A [(q, .inr (8, [.ref q_readNeeds, .ref q_readPeople, .ref q_readQuarrels, .int f_readR, .int f_readP, .int f_readQ, .ref q_needs, .ref q_persons, .ref q_quarrels, .int f_rooms, .int f_people, .int f_pairs, .ref q_text, .int f_length, .int f_at, .int f_faultAt, .ref q_now, .int f_acts, .int f_next, .ref q_row, .ref q_least, .ref q_told, .ref q_ways, .ref q_then, .long f_seed, .ref q_isKept, .ref q_kept])), (q_needs, .inl (cI, 3, .inl f_needs)), (q_persons, .inl (cI, 20, .inl f_persons))] → va_S A s.heap H locs → lv_has ls 8 [(0, .ref q), (1, .int y3), (3, .int y4), (4, .int y8), (5, .int y5)] → W p l e ({ frames := 0, cells := 0, slots := 0, locals := 0 } : Room) s m args below meth c H locs 0 0 Q (F0 m 83 ls [])) → ∀ (nlp : Nat) (y6 : Int32) (y7 : Int32), gg_lpF (fun (s : (Int32 × Int32)) => pX8_behind_L13 f_people f_needs f_persons y3 y4 y5 s.1 s.2) nlp (y6, y7) = some y8 → ∀ (H : Heap) (locs : List Loc) (ls : Array Slot), va_P D vwCl [(q, .inr (8, [.ref q_readNeeds, .ref q_readPeople, .ref q_readQuarrels, .int f_readR, .int f_readP, .int f_readQ, .ref q_needs, .ref q_persons, .ref q_quarrels, .int f_rooms, .int f_people, .int f_pairs, .ref q_text, .int f_length, .int f_at, .int f_faultAt, .ref q_now, .int f_acts, .int f_next, .ref q_row, .ref q_least, .ref q_told, .ref q_ways, .ref q_then, .long f_seed, .ref q_isKept, .ref q_kept])), (q_needs, .inl (cI, 3, .inl f_needs)), (q_persons, .inl (cI, 20, .inl f_persons))] H → va_D A [(q, .inr (8, [.ref q_readNeeds, .ref q_readPeople, .ref q_readQuarrels, .int f_readR, .int f_readP, .int f_readQ, .ref q_needs, .ref q_persons, .ref q_quarrels, .int f_rooms, .int f_people, .int f_pairs, .ref q_text, .int f_length, .int f_at, .int f_faultAt, .ref q_now, .int f_acts, .int f_next, .ref q_row, .ref q_least, .ref q_told, .ref q_ways, .ref q_then, .long f_seed, .ref q_isKept, .ref q_kept])), (q_needs, .inl (cI, 3, .inl f_needs)), (q_persons, .inl (cI, 20, .inl f_persons))] → va_S A s.heap H locs → lv_has ls 8 [(0, .ref q), (1, .int y3), (3, .int y4), (4, .int y6), (5, .int y5), (6, .int y7)] → W p l e ({ frames := 0, cells := 0, slots := 0, locals := 0 } : Room) s m args below meth c H locs 0 0 Q (F0 m 13 ls []) := by
    intro y3 y4 y5 y8 hE nlp
    induction nlp with
    | zero => intro y6 y7 hf; cases hf
    | succ nlp ih =>
      intro y6 y7 hf H locs ls hP hD hS hl
      obtain ⟨zz, hz, hzE, hzN⟩ := gg_lpF_x hf
      replace hf : pX8_behind_L13 f_people f_needs f_persons y3 y4 y5 y6 y7 = some zz := hz
      have J74 : ∀ (y13 : Int32) (s14 : Int32) (s15 : Int32) (H : Heap) (locs : List Loc) (ls : Array Slot), pX8_behind_j74 f_people f_needs f_persons y3 y4 y5 y13 s14 s15 = some zz → va_P D vwCl [(q, .inr (8, [.ref q_readNeeds, .ref q_readPeople, .ref q_readQuarrels, .int f_readR, .int f_readP, .int f_readQ, .ref q_needs, .ref q_persons, .ref q_quarrels, .int f_rooms, .int f_people, .int f_pairs, .ref q_text, .int f_length, .int f_at, .int f_faultAt, .ref q_now, .int f_acts, .int f_next, .ref q_row, .ref q_least, .ref q_told, .ref q_ways, .ref q_then, .long f_seed, .ref q_isKept, .ref q_kept])), (q_needs, .inl (cI, 3, .inl f_needs)), (q_persons, .inl (cI, 20, .inl f_persons))] H → va_D A [(q, .inr (8, [.ref q_readNeeds, .ref q_readPeople, .ref q_readQuarrels, .int f_readR, .int f_readP, .int f_readQ, .ref q_needs, .ref q_persons, .ref q_quarrels, .int f_rooms, .int f_people, .int f_pairs, .ref q_text, .int f_length, .int f_at, .int f_faultAt, .ref q_now, .int f_acts, .int f_next, .ref q_row, .ref q_least, .ref q_told, .ref q_ways, .ref q_then, .long f_seed, .ref q_isKept, .ref q_kept])), (q_needs, .inl (cI, 3, .inl f_needs)), (q_persons, .inl (cI, 20, .inl f_persons))] → va_S A s.heap H locs → lv_has ls 8 [(0, .ref q), (1, .int y3), (3, .int y4), (5, .int y5), (6, .int y13)] → W p l e ({ frames := 0, cells := 0, slots := 0, locals := 0 } : Room) s m args below meth c H locs 0 0 Q (F0 m 74 ls [.int s15, .int s14]) := by
        intro y13 s14 s15 H locs ls hf hP hD hS hl
        unfold pX8_behind_j74 at hf
        refine lv_iadd hx hb dX8_behind_74 ?_
        refine gg_topi hf (fun v16 hf => ?_)
        refine lv_istore (lv' := [(4, .int v16), (0, .ref q), (1, .int y3), (3, .int y4), (5, .int y5), (6, .int y13)]) hx hb dX8_behind_75 hl (by decide) rfl (fun ls hl => ?_)
        refine gg_iinc (cst := (1 : Int32)) (k := 5) (lv' := fun v17 => [(6, .int v17), (4, .int v16), (0, .ref q), (1, .int y3), (3, .int y4), (5, .int y5)]) hx hb dX8_behind_77 hl rfl (by decide) (by decide) (fun _ => rfl) hf (fun v17 ls hl hf => ?_)
        refine lv_goto (tgt := 13) hx hb dX8_behind_80 (by decide) ?_
        exact ih _ _ (hzN _ (Option.some.inj hf).symm) _ _ _ hP hD hS (lv_sub hl [2, 3, 4, 1, 5, 0] rfl)
      have J49 : ∀ (y10 : Int32) (y11 : Int32) (s12 : Int32) (H : Heap) (locs : List Loc) (ls : Array Slot), pX8_behind_j49 f_people f_needs f_persons y3 y4 y5 y10 y11 s12 = some zz → va_P D vwCl [(q, .inr (8, [.ref q_readNeeds, .ref q_readPeople, .ref q_readQuarrels, .int f_readR, .int f_readP, .int f_readQ, .ref q_needs, .ref q_persons, .ref q_quarrels, .int f_rooms, .int f_people, .int f_pairs, .ref q_text, .int f_length, .int f_at, .int f_faultAt, .ref q_now, .int f_acts, .int f_next, .ref q_row, .ref q_least, .ref q_told, .ref q_ways, .ref q_then, .long f_seed, .ref q_isKept, .ref q_kept])), (q_needs, .inl (cI, 3, .inl f_needs)), (q_persons, .inl (cI, 20, .inl f_persons))] H → va_D A [(q, .inr (8, [.ref q_readNeeds, .ref q_readPeople, .ref q_readQuarrels, .int f_readR, .int f_readP, .int f_readQ, .ref q_needs, .ref q_persons, .ref q_quarrels, .int f_rooms, .int f_people, .int f_pairs, .ref q_text, .int f_length, .int f_at, .int f_faultAt, .ref q_now, .int f_acts, .int f_next, .ref q_row, .ref q_least, .ref q_told, .ref q_ways, .ref q_then, .long f_seed, .ref q_isKept, .ref q_kept])), (q_needs, .inl (cI, 3, .inl f_needs)), (q_persons, .inl (cI, 20, .inl f_persons))] → va_S A s.heap H locs → lv_has ls 8 [(0, .ref q), (1, .int y3), (3, .int y4), (4, .int y10), (5, .int y5), (6, .int y11)] → W p l e ({ frames := 0, cells := 0, slots := 0, locals := 0 } : Room) s m args below meth c H locs 0 0 Q (F0 m 49 ls [.int s12]) := by
        intro y10 y11 s12 H locs ls hf hP hD hS hl
        unfold pX8_behind_j49 at hf
        refine lv_istore (lv' := [(7, .int s12), (0, .ref q), (1, .int y3), (3, .int y4), (4, .int y10), (5, .int y5), (6, .int y11)]) hx hb dX8_behind_49 hl (by decide) rfl (fun ls hl => ?_)
        refine lv_iload hx hb dX8_behind_51 (lv_at hl 4 rfl) ?_
        refine lv_iload hx hb dX8_behind_53 (lv_at hl 0 rfl) ?_
        refine lv_if_eq (tgt := 73) hx hb dX8_behind_55 (by decide) (fun hc => ?_) (fun hc => ?_)
        · replace hf := gg_pos hf hc
          refine lv_iconst (v := (0 : Int32)) hx hb dX8_behind_73 (by decide) ?_
          exact J74 _ _ _ _ _ _ hf hP hD hS (lv_sub hl [1, 2, 3, 5, 6] rfl)
        · replace hf := gg_neg hf hc
          refine lv_iload hx hb dX8_behind_58 (lv_at hl 4 rfl) ?_
          refine lv_aload_n hx hb dX8_behind_60 rfl (lv_at hl 1 rfl) ?_
          refine gg_get hx hb hts iX8 hown hK hP 0 rfl rfl 6 (by decide) k19 rfl rfl dX8_behind_61 ?_
          refine lv_iload_n hx hb dX8_behind_64 rfl (lv_at hl 2 rfl) ?_
          refine gg_iald hx hb hK hP 1 0 rfl rfl dX8_behind_65 hf (fun hf => ?_)
          refine lv_icmp_ge (tgt := 73) hx hb dX8_behind_66 (by decide) (fun hc => ?_) (fun hc => ?_)
          · replace hf := gg_pos hf hc
            refine lv_iconst (v := (0 : Int32)) hx hb dX8_behind_73 (by decide) ?_
            exact J74 _ _ _ _ _ _ hf hP hD hS (lv_sub hl [1, 2, 3, 5, 6] rfl)
          · replace hf := gg_neg hf hc
            refine lv_iconst (v := (1 : Int32)) hx hb dX8_behind_69 (by decide) ?_
            refine lv_goto (tgt := 74) hx hb dX8_behind_70 (by decide) ?_
            exact J74 _ _ _ _ _ _ hf hP hD hS (lv_sub hl [1, 2, 3, 5, 6] rfl)
      unfold pX8_behind_L13 at hf
      refine lv_iload hx hb dX8_behind_13 (lv_at hl 5 rfl) ?_
      refine lv_aload_n hx hb dX8_behind_15 rfl (lv_at hl 0 rfl) ?_
      refine gg_get hx hb hts iX8 hown hK hP 0 rfl rfl 10 (by decide) k111 rfl rfl dX8_behind_16 ?_
      refine lv_icmp_ge (tgt := 83) hx hb dX8_behind_19 (by decide) (fun hc => ?_) (fun hc => ?_)
      · replace hf := gg_pos hf hc
        have hq := hzE _ (Option.some.inj hf).symm
        cases hq
        exact hE _ _ _ hP hD hS (lv_sub hl [0, 1, 2, 3, 4] rfl)
      · replace hf := gg_neg hf hc
        refine lv_aload_n hx hb dX8_behind_22 rfl (lv_at hl 0 rfl) ?_
        refine gg_get hx hb hts iX8 hown hK hP 0 rfl rfl 7 (by decide) k22 rfl rfl dX8_behind_23 ?_
        refine lv_iconst (v := (4 : Int32)) hx hb dX8_behind_26 (by decide) ?_
        refine lv_iload hx hb dX8_behind_27 (lv_at hl 5 rfl) ?_
        refine lv_imul hx hb dX8_behind_29 ?_
        refine gg_iald hx hb hK hP 2 0 rfl rfl dX8_behind_30 hf (fun hf => ?_)
        refine lv_iload_n hx hb dX8_behind_31 rfl (lv_at hl 1 rfl) ?_
        refine lv_icmp_ne (tgt := 48) hx hb dX8_behind_32 (by decide) (fun hc => ?_) (fun hc => ?_)
        · replace hf := gg_neg hf hc
          refine lv_iconst (v := (0 : Int32)) hx hb dX8_behind_48 (by decide) ?_
          exact J49 _ _ _ _ _ _ hf hP hD hS (lv_sub hl [0, 1, 2, 3, 4, 5] rfl)
        · replace hf := gg_pos hf hc
          refine lv_iload_n hx hb dX8_behind_35 rfl (lv_at hl 2 rfl) ?_
          refine lv_iload hx hb dX8_behind_36 (lv_at hl 5 rfl) ?_
          refine lv_ishr hx hb dX8_behind_38 ?_
          refine lv_iconst (v := (1 : Int32)) hx hb dX8_behind_39 (by decide) ?_
          refine lv_iand hx hb dX8_behind_40 ?_
          refine lv_if_ne (tgt := 48) hx hb dX8_behind_41 (by decide) (fun hc => ?_) (fun hc => ?_)
          · replace hf := gg_neg hf hc
            refine lv_iconst (v := (0 : Int32)) hx hb dX8_behind_48 (by decide) ?_
            exact J49 _ _ _ _ _ _ hf hP hD hS (lv_sub hl [0, 1, 2, 3, 4, 5] rfl)
          · replace hf := gg_pos hf hc
            refine lv_iconst (v := (1 : Int32)) hx hb dX8_behind_44 (by decide) ?_
            refine lv_goto (tgt := 49) hx hb dX8_behind_45 (by decide) ?_
            exact J49 _ _ _ _ _ _ hf hP hD hS (lv_sub hl [0, 1, 2, 3, 4, 5] rfl)
  have L86 : ∀ (y20 : Int32) (y21 : Int32) (y25 : Int32) (y26 : Int32), (∀ (H : Heap) (locs : List Loc) (ls : Array Slot), va_P D vwCl [(q, .inr (8, [.ref q_readNeeds, .ref q_readPeople, .ref q_readQuarrels, .int f_readR, .int f_readP, .int f_readQ, .ref q_needs, .ref q_persons, .ref q_quarrels, .int f_rooms, .int f_people, .int f_pairs, .ref q_text, .int f_length, .int f_at, .int f_faultAt, .ref q_now, .int f_acts, .int f_next, .ref q_row, .ref q_least, .ref q_told, .ref q_ways, .ref q_then, .long f_seed, .ref q_isKept, .ref q_kept])), (q_needs, .inl (cI, 3, .inl f_needs)), (q_persons, .inl (cI, 20, .inl f_persons))] H → va_D A [(q, .inr (8, [.ref q_readNeeds, .ref q_readPeople, .ref q_readQuarrels, .int f_readR, .int f_readP, .int f_readQ, .ref q_needs, .ref q_persons, .ref q_quarrels, .int f_rooms, .int f_people, .int f_pairs, .ref q_text, .int f_length, .int f_at, .int f_faultAt, .ref q_now, .int f_acts, .int f_next, .ref q_row, .ref q_least, .ref q_told, .ref q_ways, .ref q_then, .long f_seed, .ref q_isKept, .ref q_kept])), (q_needs, .inl (cI, 3, .inl f_needs)), (q_persons, .inl (cI, 20, .inl f_persons))] → va_S A s.heap H locs → lv_has ls 8 [(4, .int y25), (5, .int y26)] → W p l e ({ frames := 0, cells := 0, slots := 0, locals := 0 } : Room) s m args below meth c H locs 0 0 Q (F0 m 162 ls [])) → ∀ (nlp : Nat) (y22 : Int32) (y23 : Int32) (y24 : Int32), gg_lpF (fun (s : (Int32 × Int32 × Int32)) => pX8_behind_L86 f_people f_needs f_persons y20 y21 s.1 s.2.1 s.2.2) nlp (y22, y23, y24) = some (y25, y26) → ∀ (H : Heap) (locs : List Loc) (ls : Array Slot), va_P D vwCl [(q, .inr (8, [.ref q_readNeeds, .ref q_readPeople, .ref q_readQuarrels, .int f_readR, .int f_readP, .int f_readQ, .ref q_needs, .ref q_persons, .ref q_quarrels, .int f_rooms, .int f_people, .int f_pairs, .ref q_text, .int f_length, .int f_at, .int f_faultAt, .ref q_now, .int f_acts, .int f_next, .ref q_row, .ref q_least, .ref q_told, .ref q_ways, .ref q_then, .long f_seed, .ref q_isKept, .ref q_kept])), (q_needs, .inl (cI, 3, .inl f_needs)), (q_persons, .inl (cI, 20, .inl f_persons))] H → va_D A [(q, .inr (8, [.ref q_readNeeds, .ref q_readPeople, .ref q_readQuarrels, .int f_readR, .int f_readP, .int f_readQ, .ref q_needs, .ref q_persons, .ref q_quarrels, .int f_rooms, .int f_people, .int f_pairs, .ref q_text, .int f_length, .int f_at, .int f_faultAt, .ref q_now, .int f_acts, .int f_next, .ref q_row, .ref q_least, .ref q_told, .ref q_ways, .ref q_then, .long f_seed, .ref q_isKept, .ref q_kept])), (q_needs, .inl (cI, 3, .inl f_needs)), (q_persons, .inl (cI, 20, .inl f_persons))] → va_S A s.heap H locs → lv_has ls 8 [(0, .ref q), (1, .int y20), (3, .int y21), (4, .int y22), (5, .int y23), (6, .int y24)] → W p l e ({ frames := 0, cells := 0, slots := 0, locals := 0 } : Room) s m args below meth c H locs 0 0 Q (F0 m 86 ls []) := by
    intro y20 y21 y25 y26 hE nlp
    induction nlp with
    | zero => intro y22 y23 y24 hf; cases hf
    | succ nlp ih =>
      intro y22 y23 y24 hf H locs ls hP hD hS hl
      obtain ⟨zz, hz, hzE, hzN⟩ := gg_lpF_x hf
      replace hf : pX8_behind_L86 f_people f_needs f_persons y20 y21 y22 y23 y24 = some zz := hz
      have J154 : ∀ (y36 : Int32) (y37 : Int32) (s38 : Int32) (H : Heap) (locs : List Loc) (ls : Array Slot), pX8_behind_j154 f_people f_needs f_persons y20 y21 y36 y37 s38 = some zz → va_P D vwCl [(q, .inr (8, [.ref q_readNeeds, .ref q_readPeople, .ref q_readQuarrels, .int f_readR, .int f_readP, .int f_readQ, .ref q_needs, .ref q_persons, .ref q_quarrels, .int f_rooms, .int f_people, .int f_pairs, .ref q_text, .int f_length, .int f_at, .int f_faultAt, .ref q_now, .int f_acts, .int f_next, .ref q_row, .ref q_least, .ref q_told, .ref q_ways, .ref q_then, .long f_seed, .ref q_isKept, .ref q_kept])), (q_needs, .inl (cI, 3, .inl f_needs)), (q_persons, .inl (cI, 20, .inl f_persons))] H → va_D A [(q, .inr (8, [.ref q_readNeeds, .ref q_readPeople, .ref q_readQuarrels, .int f_readR, .int f_readP, .int f_readQ, .ref q_needs, .ref q_persons, .ref q_quarrels, .int f_rooms, .int f_people, .int f_pairs, .ref q_text, .int f_length, .int f_at, .int f_faultAt, .ref q_now, .int f_acts, .int f_next, .ref q_row, .ref q_least, .ref q_told, .ref q_ways, .ref q_then, .long f_seed, .ref q_isKept, .ref q_kept])), (q_needs, .inl (cI, 3, .inl f_needs)), (q_persons, .inl (cI, 20, .inl f_persons))] → va_S A s.heap H locs → lv_has ls 8 [(0, .ref q), (1, .int y20), (3, .int y21), (4, .int y36), (6, .int y37)] → W p l e ({ frames := 0, cells := 0, slots := 0, locals := 0 } : Room) s m args below meth c H locs 0 0 Q (F0 m 154 ls [.int s38]) := by
        intro y36 y37 s38 H locs ls hf hP hD hS hl
        unfold pX8_behind_j154 at hf
        refine lv_istore (lv' := [(5, .int s38), (0, .ref q), (1, .int y20), (3, .int y21), (4, .int y36), (6, .int y37)]) hx hb dX8_behind_154 hl (by decide) rfl (fun ls hl => ?_)
        refine gg_iinc (cst := (1 : Int32)) (k := 5) (lv' := fun v39 => [(6, .int v39), (5, .int s38), (0, .ref q), (1, .int y20), (3, .int y21), (4, .int y36)]) hx hb dX8_behind_156 hl rfl (by decide) (by decide) (fun _ => rfl) hf (fun v39 ls hl hf => ?_)
        refine lv_goto (tgt := 86) hx hb dX8_behind_159 (by decide) ?_
        exact ih _ _ _ (hzN _ (Option.some.inj hf).symm) _ _ _ hP hD hS (lv_sub hl [2, 3, 4, 5, 1, 0] rfl)
      have J139 : ∀ (y31 : Int32) (y32 : Int32) (s33 : Int32) (s34 : Int32) (H : Heap) (locs : List Loc) (ls : Array Slot), pX8_behind_j139 f_people f_needs f_persons y20 y21 y31 y32 s33 s34 = some zz → va_P D vwCl [(q, .inr (8, [.ref q_readNeeds, .ref q_readPeople, .ref q_readQuarrels, .int f_readR, .int f_readP, .int f_readQ, .ref q_needs, .ref q_persons, .ref q_quarrels, .int f_rooms, .int f_people, .int f_pairs, .ref q_text, .int f_length, .int f_at, .int f_faultAt, .ref q_now, .int f_acts, .int f_next, .ref q_row, .ref q_least, .ref q_told, .ref q_ways, .ref q_then, .long f_seed, .ref q_isKept, .ref q_kept])), (q_needs, .inl (cI, 3, .inl f_needs)), (q_persons, .inl (cI, 20, .inl f_persons))] H → va_D A [(q, .inr (8, [.ref q_readNeeds, .ref q_readPeople, .ref q_readQuarrels, .int f_readR, .int f_readP, .int f_readQ, .ref q_needs, .ref q_persons, .ref q_quarrels, .int f_rooms, .int f_people, .int f_pairs, .ref q_text, .int f_length, .int f_at, .int f_faultAt, .ref q_now, .int f_acts, .int f_next, .ref q_row, .ref q_least, .ref q_told, .ref q_ways, .ref q_then, .long f_seed, .ref q_isKept, .ref q_kept])), (q_needs, .inl (cI, 3, .inl f_needs)), (q_persons, .inl (cI, 20, .inl f_persons))] → va_S A s.heap H locs → lv_has ls 8 [(0, .ref q), (1, .int y20), (3, .int y21), (5, .int y31), (6, .int y32)] → W p l e ({ frames := 0, cells := 0, slots := 0, locals := 0 } : Room) s m args below meth c H locs 0 0 Q (F0 m 139 ls [.int s34, .int s33]) := by
        intro y31 y32 s33 s34 H locs ls hf hP hD hS hl
        unfold pX8_behind_j139 at hf
        refine lv_isub hx hb dX8_behind_139 ?_
        refine gg_topi hf (fun v35 hf => ?_)
        refine lv_istore (lv' := [(4, .int v35), (0, .ref q), (1, .int y20), (3, .int y21), (5, .int y31), (6, .int y32)]) hx hb dX8_behind_140 hl (by decide) rfl (fun ls hl => ?_)
        refine lv_iload hx hb dX8_behind_142 (lv_at hl 4 rfl) ?_
        refine lv_iconst (v := (4 : Int32)) hx hb dX8_behind_144 (by decide) ?_
        refine lv_icmp_ne (tgt := 152) hx hb dX8_behind_145 (by decide) (fun hc => ?_) (fun hc => ?_)
        · replace hf := gg_neg hf hc
          refine lv_iload hx hb dX8_behind_152 (lv_at hl 4 rfl) ?_
          exact J154 _ _ _ _ _ _ hf hP hD hS (lv_sub hl [1, 2, 3, 0, 5] rfl)
        · replace hf := gg_pos hf hc
          refine lv_iconst (v := (0 : Int32)) hx hb dX8_behind_148 (by decide) ?_
          refine lv_goto (tgt := 154) hx hb dX8_behind_149 (by decide) ?_
          exact J154 _ _ _ _ _ _ hf hP hD hS (lv_sub hl [1, 2, 3, 0, 5] rfl)
      unfold pX8_behind_L86 at hf
      refine lv_iload hx hb dX8_behind_86 (lv_at hl 5 rfl) ?_
      refine lv_aload_n hx hb dX8_behind_88 rfl (lv_at hl 0 rfl) ?_
      refine gg_get hx hb hts iX8 hown hK hP 0 rfl rfl 10 (by decide) k111 rfl rfl dX8_behind_89 ?_
      refine lv_icmp_ge (tgt := 162) hx hb dX8_behind_92 (by decide) (fun hc => ?_) (fun hc => ?_)
      · replace hf := gg_pos hf hc
        have hq := hzE _ (Option.some.inj hf).symm
        cases hq
        exact hE _ _ _ hP hD hS (lv_sub hl [3, 4] rfl)
      · replace hf := gg_neg hf hc
        refine lv_aload_n hx hb dX8_behind_95 rfl (lv_at hl 0 rfl) ?_
        refine gg_get hx hb hts iX8 hown hK hP 0 rfl rfl 7 (by decide) k22 rfl rfl dX8_behind_96 ?_
        refine lv_iconst (v := (4 : Int32)) hx hb dX8_behind_99 (by decide) ?_
        refine lv_iload hx hb dX8_behind_100 (lv_at hl 5 rfl) ?_
        refine lv_imul hx hb dX8_behind_102 ?_
        refine gg_iald hx hb hK hP 2 0 rfl rfl dX8_behind_103 hf (fun hf => ?_)
        refine lv_iload_n hx hb dX8_behind_104 rfl (lv_at hl 1 rfl) ?_
        refine lv_icmp_ne (tgt := 156) hx hb dX8_behind_105 (by decide) (fun hc => ?_) (fun hc => ?_)
        · replace hf := gg_neg hf hc
          refine gg_iinc (cst := (1 : Int32)) (k := 5) (lv' := fun v28 => [(6, .int v28), (0, .ref q), (1, .int y20), (3, .int y21), (4, .int y22), (5, .int y23)]) hx hb dX8_behind_156 hl rfl (by decide) (by decide) (fun _ => rfl) hf (fun v28 ls hl hf => ?_)
          refine lv_goto (tgt := 86) hx hb dX8_behind_159 (by decide) ?_
          exact ih _ _ _ (hzN _ (Option.some.inj hf).symm) _ _ _ hP hD hS (lv_sub hl [1, 2, 3, 4, 5, 0] rfl)
        · replace hf := gg_pos hf hc
          refine lv_iload_n hx hb dX8_behind_108 rfl (lv_at hl 2 rfl) ?_
          refine lv_iload hx hb dX8_behind_109 (lv_at hl 5 rfl) ?_
          refine lv_ishr hx hb dX8_behind_111 ?_
          refine lv_iconst (v := (1 : Int32)) hx hb dX8_behind_112 (by decide) ?_
          refine lv_iand hx hb dX8_behind_113 ?_
          refine lv_iconst (v := (1 : Int32)) hx hb dX8_behind_114 (by decide) ?_
          refine lv_icmp_ne (tgt := 156) hx hb dX8_behind_115 (by decide) (fun hc => ?_) (fun hc => ?_)
          · replace hf := gg_neg hf hc
            refine gg_iinc (cst := (1 : Int32)) (k := 5) (lv' := fun v29 => [(6, .int v29), (0, .ref q), (1, .int y20), (3, .int y21), (4, .int y22), (5, .int y23)]) hx hb dX8_behind_156 hl rfl (by decide) (by decide) (fun _ => rfl) hf (fun v29 ls hl hf => ?_)
            refine lv_goto (tgt := 86) hx hb dX8_behind_159 (by decide) ?_
            exact ih _ _ _ (hzN _ (Option.some.inj hf).symm) _ _ _ hP hD hS (lv_sub hl [1, 2, 3, 4, 5, 0] rfl)
          · replace hf := gg_pos hf hc
            refine gg_iinc (cst := (1 : Int32)) (k := 4) (lv' := fun v30 => [(5, .int v30), (0, .ref q), (1, .int y20), (3, .int y21), (4, .int y22), (6, .int y24)]) hx hb dX8_behind_118 hl rfl (by decide) (by decide) (fun _ => rfl) hf (fun v30 ls hl hf => ?_)
            refine lv_iload hx hb dX8_behind_121 (lv_at hl 4 rfl) ?_
            refine lv_iload hx hb dX8_behind_123 (lv_at hl 0 rfl) ?_
            refine lv_iconst (v := (4 : Int32)) hx hb dX8_behind_125 (by decide) ?_
            refine lv_icmp_ne (tgt := 138) hx hb dX8_behind_126 (by decide) (fun hc => ?_) (fun hc => ?_)
            · replace hf := gg_neg hf hc
              refine lv_iconst (v := (0 : Int32)) hx hb dX8_behind_138 (by decide) ?_
              exact J139 _ _ _ _ _ _ _ hf hP hD hS (lv_sub hl [1, 2, 3, 0, 5] rfl)
            · replace hf := gg_pos hf hc
              refine lv_iload hx hb dX8_behind_129 (lv_at hl 4 rfl) ?_
              refine lv_if_le (tgt := 138) hx hb dX8_behind_131 (by decide) (fun hc => ?_) (fun hc => ?_)
              · replace hf := gg_pos hf hc
                refine lv_iconst (v := (0 : Int32)) hx hb dX8_behind_138 (by decide) ?_
                exact J139 _ _ _ _ _ _ _ hf hP hD hS (lv_sub hl [1, 2, 3, 0, 5] rfl)
              · replace hf := gg_neg hf hc
                refine lv_iconst (v := (1 : Int32)) hx hb dX8_behind_134 (by decide) ?_
                refine lv_goto (tgt := 139) hx hb dX8_behind_135 (by decide) ?_
                exact J139 _ _ _ _ _ _ _ hf hP hD hS (lv_sub hl [1, 2, 3, 0, 5] rfl)
  unfold pX8_behind at hf
  refine lv_iload_n hx hb dX8_behind_0 rfl (lv_at hl 2 rfl) ?_
  refine lv_iconst (v := (4 : Int32)) hx hb dX8_behind_1 (by decide) ?_
  refine lv_idiv hx hb dX8_behind_2 (by decide) ?_
  refine gg_topi hf (fun v1 hf => ?_)
  refine lv_istore (lv' := [(4, .int v1), (0, .ref q), (1, .int x1), (2, .int x2), (3, .int x3)]) hx hb dX8_behind_3 hl (by decide) rfl (fun ls hl => ?_)
  refine lv_iload_n hx hb dX8_behind_5 rfl (lv_at hl 3 rfl) ?_
  refine lv_iconst (v := (4 : Int32)) hx hb dX8_behind_6 (by decide) ?_
  refine lv_irem hx hb dX8_behind_7 (by decide) ?_
  refine gg_topi hf (fun v2 hf => ?_)
  refine lv_istore (lv' := [(5, .int v2), (4, .int v1), (0, .ref q), (1, .int x1), (2, .int x2), (3, .int x3)]) hx hb dX8_behind_8 hl (by decide) rfl (fun ls hl => ?_)
  refine lv_iconst (v := (0 : Int32)) hx hb dX8_behind_10 (by decide) ?_
  refine lv_istore (lv' := [(6, .int (0 : Int32)), (5, .int v2), (4, .int v1), (0, .ref q), (1, .int x1), (2, .int x2), (3, .int x3)]) hx hb dX8_behind_11 hl (by decide) rfl (fun ls hl => ?_)
  obtain ⟨y19, hlp, hf⟩ := gg_c1_x hf
  obtain ⟨nlp, hlp⟩ := gg_lp_x hlp
  refine L13 _ _ _ _ (fun H locs ls hP hD hS hl => ?_) nlp _ _ hlp _ _ _ hP hD hS (lv_sub hl [3, 4, 6, 2, 1, 0] rfl)
  refine lv_iconst (v := (0 : Int32)) hx hb dX8_behind_83 (by decide) ?_
  refine lv_istore (lv' := [(6, .int (0 : Int32)), (0, .ref q), (1, .int x1), (3, .int x3), (4, .int y19), (5, .int v2)]) hx hb dX8_behind_84 hl (by decide) rfl (fun ls hl => ?_)
  obtain ⟨y40, y41, hlp, hf⟩ := gg_c2_x hf
  obtain ⟨nlp, hlp⟩ := gg_lp_x hlp
  refine L86 _ _ _ _ (fun H locs ls hP hD hS hl => ?_) nlp _ _ _ hlp _ _ _ hP hD hS (lv_sub hl [1, 2, 3, 4, 5, 0] rfl)
  refine lv_iconst (v := (4 : Int32)) hx hb dX8_behind_162 (by decide) ?_
  refine lv_iload hx hb dX8_behind_163 (lv_at hl 0 rfl) ?_
  refine lv_imul hx hb dX8_behind_165 ?_
  refine lv_iload hx hb dX8_behind_166 (lv_at hl 1 rfl) ?_
  refine lv_iadd hx hb dX8_behind_168 ?_
  cases hf
  rw [hQ]
  exact gg_iret hx hb hr hlocks hS (Nat.le_of_ble_eq_true rfl) (Nat.le_of_ble_eq_true rfl) dX8_behind_169 () rfl hP hD
set_option maxHeartbeats 4000000 in
set_option maxRecDepth 100000 in
theorem mX8_layLeast (l : Launch) (D : va_G) (cI cJ cZ cR : ClassId) (q q_needs q_persons q_quarrels q_least q_readNeeds q_readPeople q_readQuarrels q_text q_now q_row q_told q_ways q_then q_isKept q_kept : Nat) (f_readR : Int32) (f_readP : Int32) (f_readQ : Int32) (f_rooms : Int32) (f_people : Int32) (f_pairs : Int32) (f_length : Int32) (f_at : Int32) (f_faultAt : Int32) (f_acts : Int32) (f_next : Int32) (f_seed : Int64) (f_needs : (Nat → Int32)) (f_persons : (Nat → Int32)) (f_quarrels : (Nat → Int32)) (f_least : (Nat → Int32)) (x1 : Int32) (x2 : Int32) (nf_least : (Nat → Int32)) (hf : pX8_layLeast f_people f_needs f_persons f_quarrels f_least x1 x2 = some nf_least) : gg_M gN vwCl (gg_T cI cJ cZ cR) l D yX8_layLeast wsX8_layLeast ({ frames := 1, cells := 0, slots := 0, locals := 27 } : Room) [.ref q, .int x1, .int x2] [(q, .inr (8, [.ref q_readNeeds, .ref q_readPeople, .ref q_readQuarrels, .int f_readR, .int f_readP, .int f_readQ, .ref q_needs, .ref q_persons, .ref q_quarrels, .int f_rooms, .int f_people, .int f_pairs, .ref q_text, .int f_length, .int f_at, .int f_faultAt, .ref q_now, .int f_acts, .int f_next, .ref q_row, .ref q_least, .ref q_told, .ref q_ways, .ref q_then, .long f_seed, .ref q_isKept, .ref q_kept])), (q_needs, .inl (cI, 3, .inl f_needs)), (q_persons, .inl (cI, 20, .inl f_persons)), (q_quarrels, .inl (cI, 25, .inl f_quarrels)), (q_least, .inl (cI, 868, .inl f_least))] (fun _ : Unit => none) (fun _ => [(q, .inr (8, [.ref q_readNeeds, .ref q_readPeople, .ref q_readQuarrels, .int f_readR, .int f_readP, .int f_readQ, .ref q_needs, .ref q_persons, .ref q_quarrels, .int f_rooms, .int f_people, .int f_pairs, .ref q_text, .int f_length, .int f_at, .int f_faultAt, .ref q_now, .int f_acts, .int f_next, .ref q_row, .ref q_least, .ref q_told, .ref q_ways, .ref q_then, .long f_seed, .ref q_isKept, .ref q_kept])), (q_needs, .inl (cI, 3, .inl f_needs)), (q_persons, .inl (cI, 20, .inl f_persons)), (q_quarrels, .inl (cI, 25, .inl f_quarrels)), (q_least, .inl (cI, 868, .inl nf_least))]) := by
  refine gg_M.of (cc := cX8_layLeast) (maxL := 8) (rt := none) (by decide) rfl (Nat.le_of_ble_eq_true rfl) ?_
  intro p e s m below meth c A args Q hQ hx hb hr hml hts hown hlocks hin hA hS hP hK hD ls hl
  replace hown : s.vm.findClass RX8 = some m.cls := hown
  replace hl : lv_has ls 8 [(0, .ref q), (1, .int x1), (2, .int x2)] := hl
  have k37 := (hts (.fieldLink RX8 37 "AbsentCarpetsModel" "least" "[I") (List.mem_of_getElem? (i := 1) rfl))
  have k19 := (hts (.fieldLink RX8 19 "AbsentCarpetsModel" "needs" "[I") (List.mem_of_getElem? (i := 2) rfl))
  have k111 := (hts (.fieldLink RX8 111 "AbsentCarpetsModel" "people" "I") (List.mem_of_getElem? (i := 4) rfl))
  have iX8 : ∀ w ∈ wsX80, w ∈ wsX8_layLeast := fun _ h => List.mem_cons_of_mem _ (List.mem_append_right _ (h))
  have L2 : ∀ (y1 : Int32) (y2 : Int32) (w5 : (Nat → Int32)), (∀ (H : Heap) (locs : List Loc) (ls : Array Slot), va_P D vwCl [(q, .inr (8, [.ref q_readNeeds, .ref q_readPeople, .ref q_readQuarrels, .int f_readR, .int f_readP, .int f_readQ, .ref q_needs, .ref q_persons, .ref q_quarrels, .int f_rooms, .int f_people, .int f_pairs, .ref q_text, .int f_length, .int f_at, .int f_faultAt, .ref q_now, .int f_acts, .int f_next, .ref q_row, .ref q_least, .ref q_told, .ref q_ways, .ref q_then, .long f_seed, .ref q_isKept, .ref q_kept])), (q_needs, .inl (cI, 3, .inl f_needs)), (q_persons, .inl (cI, 20, .inl f_persons)), (q_quarrels, .inl (cI, 25, .inl f_quarrels)), (q_least, .inl (cI, 868, .inl w5))] H → va_D A [(q, .inr (8, [.ref q_readNeeds, .ref q_readPeople, .ref q_readQuarrels, .int f_readR, .int f_readP, .int f_readQ, .ref q_needs, .ref q_persons, .ref q_quarrels, .int f_rooms, .int f_people, .int f_pairs, .ref q_text, .int f_length, .int f_at, .int f_faultAt, .ref q_now, .int f_acts, .int f_next, .ref q_row, .ref q_least, .ref q_told, .ref q_ways, .ref q_then, .long f_seed, .ref q_isKept, .ref q_kept])), (q_needs, .inl (cI, 3, .inl f_needs)), (q_persons, .inl (cI, 20, .inl f_persons)), (q_quarrels, .inl (cI, 25, .inl f_quarrels)), (q_least, .inl (cI, 868, .inl w5))] → va_S A s.heap H locs → lv_has ls 8 [(0, .ref q), (1, .int y1), (2, .int y2)] → W p l e ({ frames := 1, cells := 0, slots := 0, locals := 27 } : Room) s m args below meth c H locs 0 0 Q (F0 m 43 ls [])) → ∀ (nlp : Nat) (w3 : (Nat → Int32)) (y4 : Int32), gg_lpF (fun (s : ((Nat → Int32) × Int32)) => pX8_layLeast_L2 f_people f_needs f_persons f_quarrels y1 y2 s.1 s.2) nlp (w3, y4) = some w5 → ∀ (H : Heap) (locs : List Loc) (ls : Array Slot), va_P D vwCl [(q, .inr (8, [.ref q_readNeeds, .ref q_readPeople, .ref q_readQuarrels, .int f_readR, .int f_readP, .int f_readQ, .ref q_needs, .ref q_persons, .ref q_quarrels, .int f_rooms, .int f_people, .int f_pairs, .ref q_text, .int f_length, .int f_at, .int f_faultAt, .ref q_now, .int f_acts, .int f_next, .ref q_row, .ref q_least, .ref q_told, .ref q_ways, .ref q_then, .long f_seed, .ref q_isKept, .ref q_kept])), (q_needs, .inl (cI, 3, .inl f_needs)), (q_persons, .inl (cI, 20, .inl f_persons)), (q_quarrels, .inl (cI, 25, .inl f_quarrels)), (q_least, .inl (cI, 868, .inl w3))] H → va_D A [(q, .inr (8, [.ref q_readNeeds, .ref q_readPeople, .ref q_readQuarrels, .int f_readR, .int f_readP, .int f_readQ, .ref q_needs, .ref q_persons, .ref q_quarrels, .int f_rooms, .int f_people, .int f_pairs, .ref q_text, .int f_length, .int f_at, .int f_faultAt, .ref q_now, .int f_acts, .int f_next, .ref q_row, .ref q_least, .ref q_told, .ref q_ways, .ref q_then, .long f_seed, .ref q_isKept, .ref q_kept])), (q_needs, .inl (cI, 3, .inl f_needs)), (q_persons, .inl (cI, 20, .inl f_persons)), (q_quarrels, .inl (cI, 25, .inl f_quarrels)), (q_least, .inl (cI, 868, .inl w3))] → va_S A s.heap H locs → lv_has ls 8 [(0, .ref q), (1, .int y1), (2, .int y2), (3, .int y4)] → W p l e ({ frames := 1, cells := 0, slots := 0, locals := 27 } : Room) s m args below meth c H locs 0 0 Q (F0 m 2 ls []) := by
    intro y1 y2 w5 hE nlp
    induction nlp with
    | zero => intro w3 y4 hf; cases hf
    | succ nlp ih =>
      intro w3 y4 hf H locs ls hP hD hS hl
      obtain ⟨zz, hz, hzE, hzN⟩ := gg_lpF_x hf
      replace hf : pX8_layLeast_L2 f_people f_needs f_persons f_quarrels y1 y2 w3 y4 = some zz := hz
      have J36 : ∀ (w7 : (Nat → Int32)) (y8 : Int32) (s9 : Int32) (s10 : Int32) (H : Heap) (locs : List Loc) (ls : Array Slot), pX8_layLeast_j36 f_people f_needs f_persons f_quarrels y1 y2 w7 y8 s9 s10 = some zz → va_P D vwCl [(q, .inr (8, [.ref q_readNeeds, .ref q_readPeople, .ref q_readQuarrels, .int f_readR, .int f_readP, .int f_readQ, .ref q_needs, .ref q_persons, .ref q_quarrels, .int f_rooms, .int f_people, .int f_pairs, .ref q_text, .int f_length, .int f_at, .int f_faultAt, .ref q_now, .int f_acts, .int f_next, .ref q_row, .ref q_least, .ref q_told, .ref q_ways, .ref q_then, .long f_seed, .ref q_isKept, .ref q_kept])), (q_needs, .inl (cI, 3, .inl f_needs)), (q_persons, .inl (cI, 20, .inl f_persons)), (q_quarrels, .inl (cI, 25, .inl f_quarrels)), (q_least, .inl (cI, 868, .inl w7))] H → va_D A [(q, .inr (8, [.ref q_readNeeds, .ref q_readPeople, .ref q_readQuarrels, .int f_readR, .int f_readP, .int f_readQ, .ref q_needs, .ref q_persons, .ref q_quarrels, .int f_rooms, .int f_people, .int f_pairs, .ref q_text, .int f_length, .int f_at, .int f_faultAt, .ref q_now, .int f_acts, .int f_next, .ref q_row, .ref q_least, .ref q_told, .ref q_ways, .ref q_then, .long f_seed, .ref q_isKept, .ref q_kept])), (q_needs, .inl (cI, 3, .inl f_needs)), (q_persons, .inl (cI, 20, .inl f_persons)), (q_quarrels, .inl (cI, 25, .inl f_quarrels)), (q_least, .inl (cI, 868, .inl w7))] → va_S A s.heap H locs → lv_has ls 8 [(0, .ref q), (1, .int y1), (2, .int y2), (3, .int y8)] → W p l e ({ frames := 1, cells := 0, slots := 0, locals := 27 } : Room) s m args below meth c H locs 0 0 Q (F0 m 36 ls [.int s10, .int s9, .ref q_least]) := by
        intro w7 y8 s9 s10 H locs ls hf hP hD hS hl
        unfold pX8_layLeast_j36 at hf
        refine gg_iast (ws' := fun g11 => [(q, .inr (8, [.ref q_readNeeds, .ref q_readPeople, .ref q_readQuarrels, .int f_readR, .int f_readP, .int f_readQ, .ref q_needs, .ref q_persons, .ref q_quarrels, .int f_rooms, .int f_people, .int f_pairs, .ref q_text, .int f_length, .int f_at, .int f_faultAt, .ref q_now, .int f_acts, .int f_next, .ref q_row, .ref q_least, .ref q_told, .ref q_ways, .ref q_then, .long f_seed, .ref q_isKept, .ref q_kept])), (q_needs, .inl (cI, 3, .inl f_needs)), (q_persons, .inl (cI, 20, .inl f_persons)), (q_quarrels, .inl (cI, 25, .inl f_quarrels)), (q_least, .inl (cI, 868, .inl g11))]) hx hb hK hP hD hS 4 0 rfl rfl dX8_layLeast_36 (fun _ => rfl) hf (fun g11 H locs hP hD hS hf => ?_)
        refine gg_iinc (cst := (1 : Int32)) (k := 3) (lv' := fun v12 => [(3, .int v12), (0, .ref q), (1, .int y1), (2, .int y2)]) hx hb dX8_layLeast_37 hl rfl (by decide) (by decide) (fun _ => rfl) hf (fun v12 ls hl hf => ?_)
        refine lv_goto (tgt := 2) hx hb dX8_layLeast_40 (by decide) ?_
        exact ih _ _ (hzN _ (Option.some.inj hf).symm) _ _ _ hP hD hS (lv_sub hl [1, 2, 3, 0] rfl)
      unfold pX8_layLeast_L2 at hf
      refine lv_iload_n hx hb dX8_layLeast_2 rfl (lv_at hl 3 rfl) ?_
      refine lv_bipush (v := (124 : Int32)) hx hb dX8_layLeast_3 (by decide) ?_
      refine lv_icmp_ge (tgt := 43) hx hb dX8_layLeast_5 (by decide) (fun hc => ?_) (fun hc => ?_)
      · replace hf := gg_pos hf hc
        have hq := hzE _ (Option.some.inj hf).symm
        cases hq
        exact hE _ _ _ hP hD hS (lv_sub hl [0, 1, 2] rfl)
      · replace hf := gg_neg hf hc
        refine lv_aload_n hx hb dX8_layLeast_8 rfl (lv_at hl 0 rfl) ?_
        refine gg_get hx hb hts iX8 hown hK hP 0 rfl rfl 20 (by decide) k37 rfl rfl dX8_layLeast_9 ?_
        refine lv_bipush (v := (124 : Int32)) hx hb dX8_layLeast_12 (by decide) ?_
        refine lv_iload_n hx hb dX8_layLeast_14 rfl (lv_at hl 2 rfl) ?_
        refine lv_imul hx hb dX8_layLeast_15 ?_
        refine lv_iload_n hx hb dX8_layLeast_16 rfl (lv_at hl 3 rfl) ?_
        refine lv_iadd hx hb dX8_layLeast_17 ?_
        refine lv_iload_n hx hb dX8_layLeast_18 rfl (lv_at hl 3 rfl) ?_
        refine lv_iconst (v := (4 : Int32)) hx hb dX8_layLeast_19 (by decide) ?_
        refine lv_idiv hx hb dX8_layLeast_20 (by decide) ?_
        refine lv_aload_n hx hb dX8_layLeast_21 rfl (lv_at hl 0 rfl) ?_
        refine gg_get hx hb hts iX8 hown hK hP 0 rfl rfl 6 (by decide) k19 rfl rfl dX8_layLeast_22 ?_
        refine lv_iload_n hx hb dX8_layLeast_25 rfl (lv_at hl 1 rfl) ?_
        refine gg_iald hx hb hK hP 1 0 rfl rfl dX8_layLeast_26 hf (fun hf => ?_)
        refine lv_icmp_ne (tgt := 34) hx hb dX8_layLeast_27 (by decide) (fun hc => ?_) (fun hc => ?_)
        · replace hf := gg_neg hf hc
          refine lv_ldc (v := (99999 : Int32)) hx hb hown (hts (.constant RX8 162 (99999)) (List.mem_of_getElem? (i := 3) rfl)) dX8_layLeast_34 ?_
          exact J36 _ _ _ _ _ _ _ hf hP hD hS (lv_sub hl [0, 1, 2, 3] rfl)
        · replace hf := gg_pos hf hc
          refine lv_iconst (v := (0 : Int32)) hx hb dX8_layLeast_30 (by decide) ?_
          refine lv_goto (tgt := 36) hx hb dX8_layLeast_31 (by decide) ?_
          exact J36 _ _ _ _ _ _ _ hf hP hD hS (lv_sub hl [0, 1, 2, 3] rfl)
  have L68 : ∀ (w24 : (Nat → Int32)) (y25 : Int32) (y26 : Int32) (y27 : Int32) (y30 : Int32), (∀ (H : Heap) (locs : List Loc) (ls : Array Slot), va_P D vwCl [(q, .inr (8, [.ref q_readNeeds, .ref q_readPeople, .ref q_readQuarrels, .int f_readR, .int f_readP, .int f_readQ, .ref q_needs, .ref q_persons, .ref q_quarrels, .int f_rooms, .int f_people, .int f_pairs, .ref q_text, .int f_length, .int f_at, .int f_faultAt, .ref q_now, .int f_acts, .int f_next, .ref q_row, .ref q_least, .ref q_told, .ref q_ways, .ref q_then, .long f_seed, .ref q_isKept, .ref q_kept])), (q_needs, .inl (cI, 3, .inl f_needs)), (q_persons, .inl (cI, 20, .inl f_persons)), (q_quarrels, .inl (cI, 25, .inl f_quarrels)), (q_least, .inl (cI, 868, .inl w24))] H → va_D A [(q, .inr (8, [.ref q_readNeeds, .ref q_readPeople, .ref q_readQuarrels, .int f_readR, .int f_readP, .int f_readQ, .ref q_needs, .ref q_persons, .ref q_quarrels, .int f_rooms, .int f_people, .int f_pairs, .ref q_text, .int f_length, .int f_at, .int f_faultAt, .ref q_now, .int f_acts, .int f_next, .ref q_row, .ref q_least, .ref q_told, .ref q_ways, .ref q_then, .long f_seed, .ref q_isKept, .ref q_kept])), (q_needs, .inl (cI, 3, .inl f_needs)), (q_persons, .inl (cI, 20, .inl f_persons)), (q_quarrels, .inl (cI, 25, .inl f_quarrels)), (q_least, .inl (cI, 868, .inl w24))] → va_S A s.heap H locs → lv_has ls 8 [(0, .ref q), (1, .int y25), (3, .int y26), (4, .int y27), (5, .int y30)] → W p l e ({ frames := 1, cells := 0, slots := 0, locals := 27 } : Room) s m args below meth c H locs 0 0 Q (F0 m 144 ls [])) → ∀ (nlp : Nat) (y28 : Int32) (y29 : Int32), gg_lpF (fun (s : (Int32 × Int32)) => pX8_layLeast_L68 f_people f_needs f_persons f_quarrels w24 y25 y26 y27 s.1 s.2) nlp (y28, y29) = some y30 → ∀ (H : Heap) (locs : List Loc) (ls : Array Slot), va_P D vwCl [(q, .inr (8, [.ref q_readNeeds, .ref q_readPeople, .ref q_readQuarrels, .int f_readR, .int f_readP, .int f_readQ, .ref q_needs, .ref q_persons, .ref q_quarrels, .int f_rooms, .int f_people, .int f_pairs, .ref q_text, .int f_length, .int f_at, .int f_faultAt, .ref q_now, .int f_acts, .int f_next, .ref q_row, .ref q_least, .ref q_told, .ref q_ways, .ref q_then, .long f_seed, .ref q_isKept, .ref q_kept])), (q_needs, .inl (cI, 3, .inl f_needs)), (q_persons, .inl (cI, 20, .inl f_persons)), (q_quarrels, .inl (cI, 25, .inl f_quarrels)), (q_least, .inl (cI, 868, .inl w24))] H → va_D A [(q, .inr (8, [.ref q_readNeeds, .ref q_readPeople, .ref q_readQuarrels, .int f_readR, .int f_readP, .int f_readQ, .ref q_needs, .ref q_persons, .ref q_quarrels, .int f_rooms, .int f_people, .int f_pairs, .ref q_text, .int f_length, .int f_at, .int f_faultAt, .ref q_now, .int f_acts, .int f_next, .ref q_row, .ref q_least, .ref q_told, .ref q_ways, .ref q_then, .long f_seed, .ref q_isKept, .ref q_kept])), (q_needs, .inl (cI, 3, .inl f_needs)), (q_persons, .inl (cI, 20, .inl f_persons)), (q_quarrels, .inl (cI, 25, .inl f_quarrels)), (q_least, .inl (cI, 868, .inl w24))] → va_S A s.heap H locs → lv_has ls 8 [(0, .ref q), (1, .int y25), (3, .int y26), (4, .int y27), (5, .int y28), (6, .int y29)] → W p l e ({ frames := 1, cells := 0, slots := 0, locals := 27 } : Room) s m args below meth c H locs 0 0 Q (F0 m 68 ls []) := by
    intro w24 y25 y26 y27 y30 hE nlp
    induction nlp with
    | zero => intro y28 y29 hf; cases hf
    | succ nlp ih =>
      intro y28 y29 hf H locs ls hP hD hS hl
      obtain ⟨zz, hz, hzE, hzN⟩ := gg_lpF_x hf
      replace hf : pX8_layLeast_L68 f_people f_needs f_persons f_quarrels w24 y25 y26 y27 y28 y29 = some zz := hz
      have J136 : ∀ (y36 : Int32) (s37 : Int32) (H : Heap) (locs : List Loc) (ls : Array Slot), pX8_layLeast_j136 f_people f_needs f_persons f_quarrels w24 y25 y26 y27 y36 s37 = some zz → va_P D vwCl [(q, .inr (8, [.ref q_readNeeds, .ref q_readPeople, .ref q_readQuarrels, .int f_readR, .int f_readP, .int f_readQ, .ref q_needs, .ref q_persons, .ref q_quarrels, .int f_rooms, .int f_people, .int f_pairs, .ref q_text, .int f_length, .int f_at, .int f_faultAt, .ref q_now, .int f_acts, .int f_next, .ref q_row, .ref q_least, .ref q_told, .ref q_ways, .ref q_then, .long f_seed, .ref q_isKept, .ref q_kept])), (q_needs, .inl (cI, 3, .inl f_needs)), (q_persons, .inl (cI, 20, .inl f_persons)), (q_quarrels, .inl (cI, 25, .inl f_quarrels)), (q_least, .inl (cI, 868, .inl w24))] H → va_D A [(q, .inr (8, [.ref q_readNeeds, .ref q_readPeople, .ref q_readQuarrels, .int f_readR, .int f_readP, .int f_readQ, .ref q_needs, .ref q_persons, .ref q_quarrels, .int f_rooms, .int f_people, .int f_pairs, .ref q_text, .int f_length, .int f_at, .int f_faultAt, .ref q_now, .int f_acts, .int f_next, .ref q_row, .ref q_least, .ref q_told, .ref q_ways, .ref q_then, .long f_seed, .ref q_isKept, .ref q_kept])), (q_needs, .inl (cI, 3, .inl f_needs)), (q_persons, .inl (cI, 20, .inl f_persons)), (q_quarrels, .inl (cI, 25, .inl f_quarrels)), (q_least, .inl (cI, 868, .inl w24))] → va_S A s.heap H locs → lv_has ls 8 [(0, .ref q), (1, .int y25), (3, .int y26), (4, .int y27), (6, .int y36)] → W p l e ({ frames := 1, cells := 0, slots := 0, locals := 27 } : Room) s m args below meth c H locs 0 0 Q (F0 m 136 ls [.int s37]) := by
        intro y36 s37 H locs ls hf hP hD hS hl
        unfold pX8_layLeast_j136 at hf
        refine lv_istore (lv' := [(5, .int s37), (0, .ref q), (1, .int y25), (3, .int y26), (4, .int y27), (6, .int y36)]) hx hb dX8_layLeast_136 hl (by decide) rfl (fun ls hl => ?_)
        refine gg_iinc (cst := (1 : Int32)) (k := 5) (lv' := fun v38 => [(6, .int v38), (5, .int s37), (0, .ref q), (1, .int y25), (3, .int y26), (4, .int y27)]) hx hb dX8_layLeast_138 hl rfl (by decide) (by decide) (fun _ => rfl) hf (fun v38 ls hl hf => ?_)
        refine lv_goto (tgt := 68) hx hb dX8_layLeast_141 (by decide) ?_
        exact ih _ _ (hzN _ (Option.some.inj hf).symm) _ _ _ hP hD hS (lv_sub hl [2, 3, 4, 5, 1, 0] rfl)
      unfold pX8_layLeast_L68 at hf
      refine lv_iload hx hb dX8_layLeast_68 (lv_at hl 5 rfl) ?_
      refine lv_iconst (v := (1 : Int32)) hx hb dX8_layLeast_70 (by decide) ?_
      refine lv_aload_n hx hb dX8_layLeast_71 rfl (lv_at hl 0 rfl) ?_
      refine gg_get hx hb hts iX8 hown hK hP 0 rfl rfl 10 (by decide) k111 rfl rfl dX8_layLeast_72 ?_
      refine lv_ishl hx hb dX8_layLeast_75 ?_
      refine lv_icmp_ge (tgt := 144) hx hb dX8_layLeast_76 (by decide) (fun hc => ?_) (fun hc => ?_)
      · replace hf := gg_pos hf hc
        have hq := hzE _ (Option.some.inj hf).symm
        cases hq
        exact hE _ _ _ hP hD hS (lv_sub hl [0, 1, 2, 3, 4] rfl)
      · replace hf := gg_neg hf hc
        refine lv_iload hx hb dX8_layLeast_79 (lv_at hl 3 rfl) ?_
        refine lv_iconst (v := (4 : Int32)) hx hb dX8_layLeast_81 (by decide) ?_
        refine lv_idiv hx hb dX8_layLeast_82 (by decide) ?_
        refine lv_aload_n hx hb dX8_layLeast_83 rfl (lv_at hl 0 rfl) ?_
        refine gg_get hx hb hts iX8 hown hK hP 0 rfl rfl 6 (by decide) k19 rfl rfl dX8_layLeast_84 ?_
        refine lv_iload_n hx hb dX8_layLeast_87 rfl (lv_at hl 1 rfl) ?_
        refine gg_iald hx hb hK hP 1 0 rfl rfl dX8_layLeast_88 hf (fun hf => ?_)
        refine lv_icmp_gt (tgt := 144) hx hb dX8_layLeast_89 (by decide) (fun hc => ?_) (fun hc => ?_)
        · replace hf := gg_pos hf hc
          have hq := hzE _ (Option.some.inj hf).symm
          cases hq
          exact hE _ _ _ hP hD hS (lv_sub hl [0, 1, 2, 3, 4] rfl)
        · replace hf := gg_neg hf hc
          refine lv_aload_n hx hb dX8_layLeast_92 rfl (lv_at hl 0 rfl) ?_
          refine lv_iload hx hb dX8_layLeast_93 (lv_at hl 5 rfl) ?_
          obtain ⟨r32, hu, hf⟩ := gg_c1_x hf
          refine gg_callV (wr := [(q_needs, .inl (cI, 3, .inl f_needs)), (q_least, .inl (cI, 868, .inl w24))]) (w2 := fun _ => [(q, .inr (8, [.ref q_readNeeds, .ref q_readPeople, .ref q_readQuarrels, .int f_readR, .int f_readP, .int f_readQ, .ref q_needs, .ref q_persons, .ref q_quarrels, .int f_rooms, .int f_people, .int f_pairs, .ref q_text, .int f_length, .int f_at, .int f_faultAt, .ref q_now, .int f_acts, .int f_next, .ref q_row, .ref q_least, .ref q_told, .ref q_ways, .ref q_then, .long f_seed, .ref q_isKept, .ref q_kept])), (q_needs, .inl (cI, 3, .inl f_needs)), (q_persons, .inl (cI, 20, .inl f_persons)), (q_quarrels, .inl (cI, 25, .inl f_quarrels)), (q_least, .inl (cI, 868, .inl w24))]) ⟨hx, hb, hml, hown, hts⟩ (mX8_troubleOf l D cI cJ cZ cR q q_persons q_quarrels q_readNeeds q_readPeople q_readQuarrels q_needs q_text q_now q_row q_least q_told q_ways q_then q_isKept q_kept f_readR f_readP f_readQ f_rooms f_people f_pairs f_length f_at f_faultAt f_acts f_next f_seed f_persons f_quarrels _ r32 hu) (cwV 1 hts gX8_layLeast_X8_troubleOf rfl rfl rfl (by decide +kernel) ⟨Nat.le_of_ble_eq_true rfl, Nat.le_of_ble_eq_true rfl⟩) hK hP hD hS hA 0 rfl rfl rfl rfl hl.1 rfl (Nat.le_of_ble_eq_true rfl) dX8_layLeast_95 ⟨Nat.le_of_ble_eq_true rfl, Nat.le_of_ble_eq_true rfl⟩ [0, 2, 3] [1, 4] rfl rfl rfl rfl rfl [2, 0, 3, 4, 1] rfl (fun _ => rfl) (fun _ H locs hP hD hS => ?_)
          refine gg_st_i ?_
          refine lv_aload_n hx hb dX8_layLeast_98 rfl (lv_at hl 0 rfl) ?_
          refine gg_get hx hb hts iX8 hown hK hP 0 rfl rfl 20 (by decide) k37 rfl rfl dX8_layLeast_99 ?_
          refine lv_bipush (v := (124 : Int32)) hx hb dX8_layLeast_102 (by decide) ?_
          refine lv_iload_n hx hb dX8_layLeast_104 rfl (lv_at hl 2 rfl) ?_
          refine lv_iconst (v := (1 : Int32)) hx hb dX8_layLeast_105 (by decide) ?_
          refine lv_iadd hx hb dX8_layLeast_106 ?_
          refine lv_imul hx hb dX8_layLeast_107 ?_
          refine lv_aload_n hx hb dX8_layLeast_108 rfl (lv_at hl 0 rfl) ?_
          refine lv_iload_n hx hb dX8_layLeast_109 rfl (lv_at hl 1 rfl) ?_
          refine lv_iload hx hb dX8_layLeast_110 (lv_at hl 3 rfl) ?_
          refine lv_iload hx hb dX8_layLeast_112 (lv_at hl 5 rfl) ?_
          obtain ⟨r33, hu, hf⟩ := gg_c1_x hf
          refine gg_callV (wr := [(q_quarrels, .inl (cI, 25, .inl f_quarrels)), (q_least, .inl (cI, 868, .inl w24))]) (w2 := fun _ => [(q, .inr (8, [.ref q_readNeeds, .ref q_readPeople, .ref q_readQuarrels, .int f_readR, .int f_readP, .int f_readQ, .ref q_needs, .ref q_persons, .ref q_quarrels, .int f_rooms, .int f_people, .int f_pairs, .ref q_text, .int f_length, .int f_at, .int f_faultAt, .ref q_now, .int f_acts, .int f_next, .ref q_row, .ref q_least, .ref q_told, .ref q_ways, .ref q_then, .long f_seed, .ref q_isKept, .ref q_kept])), (q_needs, .inl (cI, 3, .inl f_needs)), (q_persons, .inl (cI, 20, .inl f_persons)), (q_quarrels, .inl (cI, 25, .inl f_quarrels)), (q_least, .inl (cI, 868, .inl w24))]) ⟨hx, hb, hml, hown, hts⟩ (mX8_behind l D cI cJ cZ cR q q_needs q_persons q_readNeeds q_readPeople q_readQuarrels q_quarrels q_text q_now q_row q_least q_told q_ways q_then q_isKept q_kept f_readR f_readP f_readQ f_rooms f_people f_pairs f_length f_at f_faultAt f_acts f_next f_seed f_needs f_persons _ _ _ r33 hu) (cwV 3 hts gX8_layLeast_X8_behind rfl rfl rfl (by decide +kernel) ⟨Nat.le_of_ble_eq_true rfl, Nat.le_of_ble_eq_true rfl⟩) hK hP hD hS hA 0 rfl rfl rfl rfl hl.1 rfl (Nat.le_of_ble_eq_true rfl) dX8_layLeast_114 ⟨Nat.le_of_ble_eq_true rfl, Nat.le_of_ble_eq_true rfl⟩ [0, 1, 2] [3, 4] rfl rfl rfl rfl rfl [2, 3, 4, 0, 1] rfl (fun _ => rfl) (fun _ H locs hP hD hS => ?_)
          refine gg_st_i ?_
          refine lv_iadd hx hb dX8_layLeast_117 ?_
          refine gg_iald hx hb hK hP 4 0 rfl rfl dX8_layLeast_118 hf (fun hf => ?_)
          refine lv_iadd hx hb dX8_layLeast_119 ?_
          refine gg_topi hf (fun v35 hf => ?_)
          refine lv_istore (lv' := [(7, .int v35), (0, .ref q), (1, .int y25), (3, .int y26), (4, .int y27), (5, .int y28), (6, .int y29)]) hx hb dX8_layLeast_120 hl (by decide) rfl (fun ls hl => ?_)
          refine lv_iload hx hb dX8_layLeast_122 (lv_at hl 0 rfl) ?_
          refine lv_iload hx hb dX8_layLeast_124 (lv_at hl 5 rfl) ?_
          refine lv_icmp_ge (tgt := 134) hx hb dX8_layLeast_126 (by decide) (fun hc => ?_) (fun hc => ?_)
          · replace hf := gg_pos hf hc
            refine lv_iload hx hb dX8_layLeast_134 (lv_at hl 5 rfl) ?_
            exact J136 _ _ _ _ _ hf hP hD hS (lv_sub hl [1, 2, 3, 4, 6] rfl)
          · replace hf := gg_neg hf hc
            refine lv_iload hx hb dX8_layLeast_129 (lv_at hl 0 rfl) ?_
            refine lv_goto (tgt := 136) hx hb dX8_layLeast_131 (by decide) ?_
            exact J136 _ _ _ _ _ hf hP hD hS (lv_sub hl [1, 2, 3, 4, 6] rfl)
  have L54 : ∀ (y19 : Int32) (y20 : Int32) (w23 : (Nat → Int32)), (∀ (H : Heap) (locs : List Loc) (ls : Array Slot), va_P D vwCl [(q, .inr (8, [.ref q_readNeeds, .ref q_readPeople, .ref q_readQuarrels, .int f_readR, .int f_readP, .int f_readQ, .ref q_needs, .ref q_persons, .ref q_quarrels, .int f_rooms, .int f_people, .int f_pairs, .ref q_text, .int f_length, .int f_at, .int f_faultAt, .ref q_now, .int f_acts, .int f_next, .ref q_row, .ref q_least, .ref q_told, .ref q_ways, .ref q_then, .long f_seed, .ref q_isKept, .ref q_kept])), (q_needs, .inl (cI, 3, .inl f_needs)), (q_persons, .inl (cI, 20, .inl f_persons)), (q_quarrels, .inl (cI, 25, .inl f_quarrels)), (q_least, .inl (cI, 868, .inl w23))] H → va_D A [(q, .inr (8, [.ref q_readNeeds, .ref q_readPeople, .ref q_readQuarrels, .int f_readR, .int f_readP, .int f_readQ, .ref q_needs, .ref q_persons, .ref q_quarrels, .int f_rooms, .int f_people, .int f_pairs, .ref q_text, .int f_length, .int f_at, .int f_faultAt, .ref q_now, .int f_acts, .int f_next, .ref q_row, .ref q_least, .ref q_told, .ref q_ways, .ref q_then, .long f_seed, .ref q_isKept, .ref q_kept])), (q_needs, .inl (cI, 3, .inl f_needs)), (q_persons, .inl (cI, 20, .inl f_persons)), (q_quarrels, .inl (cI, 25, .inl f_quarrels)), (q_least, .inl (cI, 868, .inl w23))] → va_S A s.heap H locs → lv_has ls 8 [(0, .ref q), (1, .int y19), (3, .int y20)] → W p l e ({ frames := 1, cells := 0, slots := 0, locals := 27 } : Room) s m args below meth c H locs 0 0 Q (F0 m 164 ls [])) → ∀ (nlp : Nat) (w21 : (Nat → Int32)) (y22 : Int32), gg_lpF (fun (s : ((Nat → Int32) × Int32)) => pX8_layLeast_L54 f_people f_needs f_persons f_quarrels y19 y20 s.1 s.2) nlp (w21, y22) = some w23 → ∀ (H : Heap) (locs : List Loc) (ls : Array Slot), va_P D vwCl [(q, .inr (8, [.ref q_readNeeds, .ref q_readPeople, .ref q_readQuarrels, .int f_readR, .int f_readP, .int f_readQ, .ref q_needs, .ref q_persons, .ref q_quarrels, .int f_rooms, .int f_people, .int f_pairs, .ref q_text, .int f_length, .int f_at, .int f_faultAt, .ref q_now, .int f_acts, .int f_next, .ref q_row, .ref q_least, .ref q_told, .ref q_ways, .ref q_then, .long f_seed, .ref q_isKept, .ref q_kept])), (q_needs, .inl (cI, 3, .inl f_needs)), (q_persons, .inl (cI, 20, .inl f_persons)), (q_quarrels, .inl (cI, 25, .inl f_quarrels)), (q_least, .inl (cI, 868, .inl w21))] H → va_D A [(q, .inr (8, [.ref q_readNeeds, .ref q_readPeople, .ref q_readQuarrels, .int f_readR, .int f_readP, .int f_readQ, .ref q_needs, .ref q_persons, .ref q_quarrels, .int f_rooms, .int f_people, .int f_pairs, .ref q_text, .int f_length, .int f_at, .int f_faultAt, .ref q_now, .int f_acts, .int f_next, .ref q_row, .ref q_least, .ref q_told, .ref q_ways, .ref q_then, .long f_seed, .ref q_isKept, .ref q_kept])), (q_needs, .inl (cI, 3, .inl f_needs)), (q_persons, .inl (cI, 20, .inl f_persons)), (q_quarrels, .inl (cI, 25, .inl f_quarrels)), (q_least, .inl (cI, 868, .inl w21))] → va_S A s.heap H locs → lv_has ls 8 [(0, .ref q), (1, .int y19), (3, .int y20), (4, .int y22)] → W p l e ({ frames := 1, cells := 0, slots := 0, locals := 27 } : Room) s m args below meth c H locs 0 0 Q (F0 m 54 ls []) := by
    intro y19 y20 w23 hE nlp
    induction nlp with
    | zero => intro w21 y22 hf; cases hf
    | succ nlp ih =>
      intro w21 y22 hf H locs ls hP hD hS hl
      obtain ⟨zz, hz, hzE, hzN⟩ := gg_lpF_x hf
      replace hf : pX8_layLeast_L54 f_people f_needs f_persons f_quarrels y19 y20 w21 y22 = some zz := hz
      have J144 : ∀ (w40 : (Nat → Int32)) (y41 : Int32) (y42 : Int32) (H : Heap) (locs : List Loc) (ls : Array Slot), pX8_layLeast_j144 f_people f_needs f_persons f_quarrels y19 y20 w40 y41 y42 = some zz → va_P D vwCl [(q, .inr (8, [.ref q_readNeeds, .ref q_readPeople, .ref q_readQuarrels, .int f_readR, .int f_readP, .int f_readQ, .ref q_needs, .ref q_persons, .ref q_quarrels, .int f_rooms, .int f_people, .int f_pairs, .ref q_text, .int f_length, .int f_at, .int f_faultAt, .ref q_now, .int f_acts, .int f_next, .ref q_row, .ref q_least, .ref q_told, .ref q_ways, .ref q_then, .long f_seed, .ref q_isKept, .ref q_kept])), (q_needs, .inl (cI, 3, .inl f_needs)), (q_persons, .inl (cI, 20, .inl f_persons)), (q_quarrels, .inl (cI, 25, .inl f_quarrels)), (q_least, .inl (cI, 868, .inl w40))] H → va_D A [(q, .inr (8, [.ref q_readNeeds, .ref q_readPeople, .ref q_readQuarrels, .int f_readR, .int f_readP, .int f_readQ, .ref q_needs, .ref q_persons, .ref q_quarrels, .int f_rooms, .int f_people, .int f_pairs, .ref q_text, .int f_length, .int f_at, .int f_faultAt, .ref q_now, .int f_acts, .int f_next, .ref q_row, .ref q_least, .ref q_told, .ref q_ways, .ref q_then, .long f_seed, .ref q_isKept, .ref q_kept])), (q_needs, .inl (cI, 3, .inl f_needs)), (q_persons, .inl (cI, 20, .inl f_persons)), (q_quarrels, .inl (cI, 25, .inl f_quarrels)), (q_least, .inl (cI, 868, .inl w40))] → va_S A s.heap H locs → lv_has ls 8 [(0, .ref q), (1, .int y19), (3, .int y20), (4, .int y41), (5, .int y42)] → W p l e ({ frames := 1, cells := 0, slots := 0, locals := 27 } : Room) s m args below meth c H locs 0 0 Q (F0 m 144 ls []) := by
        intro w40 y41 y42 H locs ls hf hP hD hS hl
        unfold pX8_layLeast_j144 at hf
        refine lv_aload_n hx hb dX8_layLeast_144 rfl (lv_at hl 0 rfl) ?_
        refine gg_get hx hb hts iX8 hown hK hP 0 rfl rfl 20 (by decide) k37 rfl rfl dX8_layLeast_145 ?_
        refine lv_bipush (v := (124 : Int32)) hx hb dX8_layLeast_148 (by decide) ?_
        refine lv_iload_n hx hb dX8_layLeast_150 rfl (lv_at hl 2 rfl) ?_
        refine lv_imul hx hb dX8_layLeast_151 ?_
        refine lv_iload hx hb dX8_layLeast_152 (lv_at hl 3 rfl) ?_
        refine lv_iadd hx hb dX8_layLeast_154 ?_
        refine lv_iload hx hb dX8_layLeast_155 (lv_at hl 4 rfl) ?_
        refine gg_iast (ws' := fun g43 => [(q, .inr (8, [.ref q_readNeeds, .ref q_readPeople, .ref q_readQuarrels, .int f_readR, .int f_readP, .int f_readQ, .ref q_needs, .ref q_persons, .ref q_quarrels, .int f_rooms, .int f_people, .int f_pairs, .ref q_text, .int f_length, .int f_at, .int f_faultAt, .ref q_now, .int f_acts, .int f_next, .ref q_row, .ref q_least, .ref q_told, .ref q_ways, .ref q_then, .long f_seed, .ref q_isKept, .ref q_kept])), (q_needs, .inl (cI, 3, .inl f_needs)), (q_persons, .inl (cI, 20, .inl f_persons)), (q_quarrels, .inl (cI, 25, .inl f_quarrels)), (q_least, .inl (cI, 868, .inl g43))]) hx hb hK hP hD hS 4 0 rfl rfl dX8_layLeast_157 (fun _ => rfl) hf (fun g43 H locs hP hD hS hf => ?_)
        refine gg_iinc (cst := (1 : Int32)) (k := 3) (lv' := fun v44 => [(4, .int v44), (0, .ref q), (1, .int y19), (3, .int y20), (5, .int y42)]) hx hb dX8_layLeast_158 hl rfl (by decide) (by decide) (fun _ => rfl) hf (fun v44 ls hl hf => ?_)
        refine lv_goto (tgt := 54) hx hb dX8_layLeast_161 (by decide) ?_
        exact ih _ _ (hzN _ (Option.some.inj hf).symm) _ _ _ hP hD hS (lv_sub hl [1, 2, 3, 0] rfl)
      unfold pX8_layLeast_L54 at hf
      refine lv_iload hx hb dX8_layLeast_54 (lv_at hl 3 rfl) ?_
      refine lv_bipush (v := (124 : Int32)) hx hb dX8_layLeast_56 (by decide) ?_
      refine lv_icmp_ge (tgt := 164) hx hb dX8_layLeast_58 (by decide) (fun hc => ?_) (fun hc => ?_)
      · replace hf := gg_pos hf hc
        have hq := hzE _ (Option.some.inj hf).symm
        cases hq
        exact hE _ _ _ hP hD hS (lv_sub hl [0, 1, 2] rfl)
      · replace hf := gg_neg hf hc
        refine lv_ldc (v := (99999 : Int32)) hx hb hown (hts (.constant RX8 162 (99999)) (List.mem_of_getElem? (i := 3) rfl)) dX8_layLeast_61 ?_
        refine lv_istore (lv' := [(5, .int (99999 : Int32)), (0, .ref q), (1, .int y19), (3, .int y20), (4, .int y22)]) hx hb dX8_layLeast_63 hl (by decide) rfl (fun ls hl => ?_)
        refine lv_iconst (v := (0 : Int32)) hx hb dX8_layLeast_65 (by decide) ?_
        refine lv_istore (lv' := [(6, .int (0 : Int32)), (5, .int (99999 : Int32)), (0, .ref q), (1, .int y19), (3, .int y20), (4, .int y22)]) hx hb dX8_layLeast_66 hl (by decide) rfl (fun ls hl => ?_)
        obtain ⟨y39, hlp, hf⟩ := gg_c1_x hf
        obtain ⟨nlp, hlp⟩ := gg_lp_x hlp
        refine L68 _ _ _ _ _ (fun H locs ls hP hD hS hl => ?_) nlp _ _ hlp _ _ _ hP hD hS (lv_sub hl [2, 3, 4, 5, 1, 0] rfl)
        exact J144 _ _ _ _ _ _ hf hP hD hS (lv_sub hl [0, 1, 2, 3, 4] rfl)
  have L47 : ∀ (y15 : Int32) (w18 : (Nat → Int32)), (∀ (H : Heap) (locs : List Loc) (ls : Array Slot), va_P D vwCl [(q, .inr (8, [.ref q_readNeeds, .ref q_readPeople, .ref q_readQuarrels, .int f_readR, .int f_readP, .int f_readQ, .ref q_needs, .ref q_persons, .ref q_quarrels, .int f_rooms, .int f_people, .int f_pairs, .ref q_text, .int f_length, .int f_at, .int f_faultAt, .ref q_now, .int f_acts, .int f_next, .ref q_row, .ref q_least, .ref q_told, .ref q_ways, .ref q_then, .long f_seed, .ref q_isKept, .ref q_kept])), (q_needs, .inl (cI, 3, .inl f_needs)), (q_persons, .inl (cI, 20, .inl f_persons)), (q_quarrels, .inl (cI, 25, .inl f_quarrels)), (q_least, .inl (cI, 868, .inl w18))] H → va_D A [(q, .inr (8, [.ref q_readNeeds, .ref q_readPeople, .ref q_readQuarrels, .int f_readR, .int f_readP, .int f_readQ, .ref q_needs, .ref q_persons, .ref q_quarrels, .int f_rooms, .int f_people, .int f_pairs, .ref q_text, .int f_length, .int f_at, .int f_faultAt, .ref q_now, .int f_acts, .int f_next, .ref q_row, .ref q_least, .ref q_told, .ref q_ways, .ref q_then, .long f_seed, .ref q_isKept, .ref q_kept])), (q_needs, .inl (cI, 3, .inl f_needs)), (q_persons, .inl (cI, 20, .inl f_persons)), (q_quarrels, .inl (cI, 25, .inl f_quarrels)), (q_least, .inl (cI, 868, .inl w18))] → va_S A s.heap H locs → lv_has ls 8 [] → W p l e ({ frames := 1, cells := 0, slots := 0, locals := 27 } : Room) s m args below meth c H locs 0 0 Q (F0 m 170 ls [])) → ∀ (nlp : Nat) (w16 : (Nat → Int32)) (y17 : Int32), gg_lpF (fun (s : ((Nat → Int32) × Int32)) => pX8_layLeast_L47 f_people f_needs f_persons f_quarrels y15 s.1 s.2) nlp (w16, y17) = some w18 → ∀ (H : Heap) (locs : List Loc) (ls : Array Slot), va_P D vwCl [(q, .inr (8, [.ref q_readNeeds, .ref q_readPeople, .ref q_readQuarrels, .int f_readR, .int f_readP, .int f_readQ, .ref q_needs, .ref q_persons, .ref q_quarrels, .int f_rooms, .int f_people, .int f_pairs, .ref q_text, .int f_length, .int f_at, .int f_faultAt, .ref q_now, .int f_acts, .int f_next, .ref q_row, .ref q_least, .ref q_told, .ref q_ways, .ref q_then, .long f_seed, .ref q_isKept, .ref q_kept])), (q_needs, .inl (cI, 3, .inl f_needs)), (q_persons, .inl (cI, 20, .inl f_persons)), (q_quarrels, .inl (cI, 25, .inl f_quarrels)), (q_least, .inl (cI, 868, .inl w16))] H → va_D A [(q, .inr (8, [.ref q_readNeeds, .ref q_readPeople, .ref q_readQuarrels, .int f_readR, .int f_readP, .int f_readQ, .ref q_needs, .ref q_persons, .ref q_quarrels, .int f_rooms, .int f_people, .int f_pairs, .ref q_text, .int f_length, .int f_at, .int f_faultAt, .ref q_now, .int f_acts, .int f_next, .ref q_row, .ref q_least, .ref q_told, .ref q_ways, .ref q_then, .long f_seed, .ref q_isKept, .ref q_kept])), (q_needs, .inl (cI, 3, .inl f_needs)), (q_persons, .inl (cI, 20, .inl f_persons)), (q_quarrels, .inl (cI, 25, .inl f_quarrels)), (q_least, .inl (cI, 868, .inl w16))] → va_S A s.heap H locs → lv_has ls 8 [(0, .ref q), (1, .int y15), (3, .int y17)] → W p l e ({ frames := 1, cells := 0, slots := 0, locals := 27 } : Room) s m args below meth c H locs 0 0 Q (F0 m 47 ls []) := by
    intro y15 w18 hE nlp
    induction nlp with
    | zero => intro w16 y17 hf; cases hf
    | succ nlp ih =>
      intro w16 y17 hf H locs ls hP hD hS hl
      obtain ⟨zz, hz, hzE, hzN⟩ := gg_lpF_x hf
      replace hf : pX8_layLeast_L47 f_people f_needs f_persons f_quarrels y15 w16 y17 = some zz := hz
      unfold pX8_layLeast_L47 at hf
      refine lv_iload_n hx hb dX8_layLeast_47 rfl (lv_at hl 2 rfl) ?_
      refine lv_if_lt (tgt := 170) hx hb dX8_layLeast_48 (by decide) (fun hc => ?_) (fun hc => ?_)
      · replace hf := gg_pos hf hc
        have hq := hzE _ (Option.some.inj hf).symm
        cases hq
        exact hE _ _ _ hP hD hS (lv_sub hl [] rfl)
      · replace hf := gg_neg hf hc
        refine lv_iconst (v := (0 : Int32)) hx hb dX8_layLeast_51 (by decide) ?_
        refine lv_istore (lv' := [(4, .int (0 : Int32)), (0, .ref q), (1, .int y15), (3, .int y17)]) hx hb dX8_layLeast_52 hl (by decide) rfl (fun ls hl => ?_)
        obtain ⟨w45, hlp, hf⟩ := gg_c1_x hf
        obtain ⟨nlp, hlp⟩ := gg_lp_x hlp
        refine L54 _ _ _ (fun H locs ls hP hD hS hl => ?_) nlp _ _ hlp _ _ _ hP hD hS (lv_sub hl [1, 2, 3, 0] rfl)
        refine gg_iinc (cst := (-1 : Int32)) (k := 2) (lv' := fun v46 => [(3, .int v46), (0, .ref q), (1, .int y15)]) hx hb dX8_layLeast_164 hl rfl (by decide) (by decide) (fun _ => rfl) hf (fun v46 ls hl hf => ?_)
        refine lv_goto (tgt := 47) hx hb dX8_layLeast_167 (by decide) ?_
        exact ih _ _ (hzN _ (Option.some.inj hf).symm) _ _ _ hP hD hS (lv_sub hl [1, 2, 0] rfl)
  unfold pX8_layLeast at hf
  refine lv_iconst (v := (0 : Int32)) hx hb dX8_layLeast_0 (by decide) ?_
  refine lv_istore_n (lv' := [(3, .int (0 : Int32)), (0, .ref q), (1, .int x1), (2, .int x2)]) hx hb dX8_layLeast_1 rfl hl (by decide) rfl (fun ls hl => ?_)
  obtain ⟨w13, hlp, hf⟩ := gg_c1_x hf
  obtain ⟨nlp, hlp⟩ := gg_lp_x hlp
  refine L2 _ _ _ (fun H locs ls hP hD hS hl => ?_) nlp _ _ hlp _ _ _ hP hD hS (lv_sub hl [1, 2, 3, 0] rfl)
  refine lv_iload_n hx hb dX8_layLeast_43 rfl (lv_at hl 2 rfl) ?_
  refine lv_iconst (v := (1 : Int32)) hx hb dX8_layLeast_44 (by decide) ?_
  refine lv_isub hx hb dX8_layLeast_45 ?_
  refine gg_topi hf (fun v14 hf => ?_)
  refine lv_istore_n (lv' := [(3, .int v14), (0, .ref q), (1, .int x1), (2, .int x2)]) hx hb dX8_layLeast_46 rfl hl (by decide) rfl (fun ls hl => ?_)
  obtain ⟨w47, hlp, hf⟩ := gg_c1_x hf
  obtain ⟨nlp, hlp⟩ := gg_lp_x hlp
  refine L47 _ _ (fun H locs ls hP hD hS hl => ?_) nlp _ _ hlp _ _ _ hP hD hS (lv_sub hl [1, 2, 0] rfl)
  cases hf
  rw [hQ]
  exact gg_vret hx hb hr hlocks hS (Nat.le_of_ble_eq_true rfl) (Nat.le_of_ble_eq_true rfl) dX8_layLeast_170 () rfl hP hD
