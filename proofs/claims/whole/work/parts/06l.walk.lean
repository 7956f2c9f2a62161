set_option maxHeartbeats 4000000 in
set_option maxRecDepth 100000 in
theorem mX8_fault (l : Launch) (D : va_G) (cI cJ cZ cR : ClassId) (q q_readNeeds q_readPeople q_readQuarrels q_text q_needs q_persons q_quarrels q_now q_row q_least q_told q_ways q_then q_isKept q_kept : Nat) (f_readR : Int32) (f_readP : Int32) (f_readQ : Int32) (f_rooms : Int32) (f_people : Int32) (f_pairs : Int32) (f_length : Int32) (f_at : Int32) (f_faultAt : Int32) (f_acts : Int32) (f_next : Int32) (f_seed : Int64) (f_readNeeds : (Nat → Int32)) (f_readPeople : (Nat → Int32)) (f_readQuarrels : (Nat → Int32)) (f_text : (Nat → Int32)) (rr : Int32) (nf_readR : Int32) (nf_readP : Int32) (nf_readQ : Int32) (nf_at : Int32) (nf_faultAt : Int32) (nf_readNeeds : (Nat → Int32)) (nf_readPeople : (Nat → Int32)) (nf_readQuarrels : (Nat → Int32)) (hf : pX8_fault f_readR f_readP f_readQ f_length f_at f_faultAt f_readNeeds f_readPeople f_readQuarrels f_text = some (rr, nf_readR, nf_readP, nf_readQ, nf_at, nf_faultAt, nf_readNeeds, nf_readPeople, nf_readQuarrels)) : gg_M gN vwCl (gg_T cI cJ cZ cR) l D yX8_fault wsX8_fault ({ frames := 5, cells := 0, slots := 0, locals := 114 } : Room) [.ref q] [(q, .inr (8, [.ref q_readNeeds, .ref q_readPeople, .ref q_readQuarrels, .int f_readR, .int f_readP, .int f_readQ, .ref q_needs, .ref q_persons, .ref q_quarrels, .int f_rooms, .int f_people, .int f_pairs, .ref q_text, .int f_length, .int f_at, .int f_faultAt, .ref q_now, .int f_acts, .int f_next, .ref q_row, .ref q_least, .ref q_told, .ref q_ways, .ref q_then, .long f_seed, .ref q_isKept, .ref q_kept])), (q_readNeeds, .inl (cI, 3, .inl f_readNeeds)), (q_readPeople, .inl (cI, 20, .inl f_readPeople)), (q_readQuarrels, .inl (cI, 25, .inl f_readQuarrels)), (q_text, .inl (cI, 64, .inl f_text))] (fun _ : Unit => some (.int rr)) (fun _ => [(q, .inr (8, [.ref q_readNeeds, .ref q_readPeople, .ref q_readQuarrels, .int nf_readR, .int nf_readP, .int nf_readQ, .ref q_needs, .ref q_persons, .ref q_quarrels, .int f_rooms, .int f_people, .int f_pairs, .ref q_text, .int f_length, .int nf_at, .int nf_faultAt, .ref q_now, .int f_acts, .int f_next, .ref q_row, .ref q_least, .ref q_told, .ref q_ways, .ref q_then, .long f_seed, .ref q_isKept, .ref q_kept])), (q_readNeeds, .inl (cI, 3, .inl nf_readNeeds)), (q_readPeople, .inl (cI, 20, .inl nf_readPeople)), (q_readQuarrels, .inl (cI, 25, .inl nf_readQuarrels)), (q_text, .inl (cI, 64, .inl f_text))]) := by
  refine gg_M.of (cc := cX8_fault) (maxL := 1) (rt := (some .int)) (by decide) rfl (Nat.le_of_ble_eq_true rfl) ?_
  intro p e s m below meth c A args Q hQ hx hb hr hml hts hown hlocks hin hA hS hP hK hD ls hl
  replace hown : s.vm.findClass RX8 = some m.cls := hown
  replace hl : lv_has ls 1 [(0, .ref q)] := hl
  unfold pX8_fault at hf
  refine lv_aload_n hx hb dX8_fault_0 rfl (lv_at hl 0 rfl) ?_
  obtain ⟨r1, u2, u3, u4, u5, u6, u7, u8, u9, hu, hf⟩ := gg_c9_x hf
  refine gg_callV (wr := []) (w2 := fun _ => [(q, .inr (8, [.ref q_readNeeds, .ref q_readPeople, .ref q_readQuarrels, .int u2, .int u3, .int u4, .ref q_needs, .ref q_persons, .ref q_quarrels, .int f_rooms, .int f_people, .int f_pairs, .ref q_text, .int f_length, .int u5, .int u6, .ref q_now, .int f_acts, .int f_next, .ref q_row, .ref q_least, .ref q_told, .ref q_ways, .ref q_then, .long f_seed, .ref q_isKept, .ref q_kept])), (q_readNeeds, .inl (cI, 3, .inl u7)), (q_readPeople, .inl (cI, 20, .inl u8)), (q_readQuarrels, .inl (cI, 25, .inl u9)), (q_text, .inl (cI, 64, .inl f_text))]) ⟨hx, hb, hml, hown, hts⟩ (mX8_readText l D cI cJ cZ cR q q_readNeeds q_readPeople q_readQuarrels q_text q_needs q_persons q_quarrels q_now q_row q_least q_told q_ways q_then q_isKept q_kept f_readR f_readP f_readQ f_rooms f_people f_pairs f_length f_at f_faultAt f_acts f_next f_seed f_readNeeds f_readPeople f_readQuarrels f_text  r1 u2 u3 u4 u5 u6 u7 u8 u9 hu) (cwV 0 hts gX8_fault_X8_readText rfl rfl rfl (by decide +kernel) ⟨Nat.le_of_ble_eq_true rfl, Nat.le_of_ble_eq_true rfl⟩) hK hP hD hS hA 0 rfl rfl rfl rfl hl.1 rfl (Nat.le_of_ble_eq_true rfl) dX8_fault_1 ⟨Nat.le_of_ble_eq_true rfl, Nat.le_of_ble_eq_true rfl⟩ [0, 1, 2, 3, 4] [] rfl rfl rfl rfl rfl [0, 1, 2, 3, 4] rfl (fun _ => rfl) (fun _ H locs hP hD hS => ?_)
  refine gg_st_i ?_
  cases hf
  rw [hQ]
  exact gg_iret hx hb hr hlocks hS (Nat.le_of_ble_eq_true rfl) (Nat.le_of_ble_eq_true rfl) dX8_fault_4 () rfl hP hD
set_option maxHeartbeats 4000000 in
set_option maxRecDepth 100000 in
theorem mX8_house (l : Launch) (D : va_G) (cI cJ cZ cR : ClassId) (q q_readNeeds q_readPeople q_readQuarrels q_needs q_persons q_quarrels q_text q_now q_isKept q_row q_least q_told q_ways q_then q_kept : Nat) (f_readR : Int32) (f_readP : Int32) (f_readQ : Int32) (f_rooms : Int32) (f_people : Int32) (f_pairs : Int32) (f_length : Int32) (f_at : Int32) (f_faultAt : Int32) (f_acts : Int32) (f_next : Int32) (f_seed : Int64) (f_readNeeds : (Nat → Int32)) (f_readPeople : (Nat → Int32)) (f_readQuarrels : (Nat → Int32)) (f_needs : (Nat → Int32)) (f_persons : (Nat → Int32)) (f_quarrels : (Nat → Int32)) (f_text : (Nat → Int32)) (f_now : (Nat → Int32)) (f_isKept : (Nat → Int32)) (rr : Int32) (nf_readR : Int32) (nf_readP : Int32) (nf_readQ : Int32) (nf_rooms : Int32) (nf_people : Int32) (nf_pairs : Int32) (nf_at : Int32) (nf_faultAt : Int32) (nf_acts : Int32) (nf_readNeeds : (Nat → Int32)) (nf_readPeople : (Nat → Int32)) (nf_readQuarrels : (Nat → Int32)) (nf_needs : (Nat → Int32)) (nf_persons : (Nat → Int32)) (nf_quarrels : (Nat → Int32)) (nf_now : (Nat → Int32)) (nf_isKept : (Nat → Int32)) (hf : pX8_house f_readR f_readP f_readQ f_rooms f_people f_pairs f_length f_at f_faultAt f_acts f_readNeeds f_readPeople f_readQuarrels f_needs f_persons f_quarrels f_text f_now f_isKept = some (rr, nf_readR, nf_readP, nf_readQ, nf_rooms, nf_people, nf_pairs, nf_at, nf_faultAt, nf_acts, nf_readNeeds, nf_readPeople, nf_readQuarrels, nf_needs, nf_persons, nf_quarrels, nf_now, nf_isKept)) : gg_M gN vwCl (gg_T cI cJ cZ cR) l D yX8_house wsX8_house ({ frames := 5, cells := 0, slots := 0, locals := 114 } : Room) [.ref q] [(q, .inr (8, [.ref q_readNeeds, .ref q_readPeople, .ref q_readQuarrels, .int f_readR, .int f_readP, .int f_readQ, .ref q_needs, .ref q_persons, .ref q_quarrels, .int f_rooms, .int f_people, .int f_pairs, .ref q_text, .int f_length, .int f_at, .int f_faultAt, .ref q_now, .int f_acts, .int f_next, .ref q_row, .ref q_least, .ref q_told, .ref q_ways, .ref q_then, .long f_seed, .ref q_isKept, .ref q_kept])), (q_readNeeds, .inl (cI, 3, .inl f_readNeeds)), (q_readPeople, .inl (cI, 20, .inl f_readPeople)), (q_readQuarrels, .inl (cI, 25, .inl f_readQuarrels)), (q_needs, .inl (cI, 3, .inl f_needs)), (q_persons, .inl (cI, 20, .inl f_persons)), (q_quarrels, .inl (cI, 25, .inl f_quarrels)), (q_text, .inl (cI, 64, .inl f_text)), (q_now, .inl (cI, 194, .inl f_now)), (q_isKept, .inl (cZ, 2, .inl f_isKept))] (fun _ : Unit => some (.int rr)) (fun _ => [(q, .inr (8, [.ref q_readNeeds, .ref q_readPeople, .ref q_readQuarrels, .int nf_readR, .int nf_readP, .int nf_readQ, .ref q_needs, .ref q_persons, .ref q_quarrels, .int nf_rooms, .int nf_people, .int nf_pairs, .ref q_text, .int f_length, .int nf_at, .int nf_faultAt, .ref q_now, .int nf_acts, .int f_next, .ref q_row, .ref q_least, .ref q_told, .ref q_ways, .ref q_then, .long f_seed, .ref q_isKept, .ref q_kept])), (q_readNeeds, .inl (cI, 3, .inl nf_readNeeds)), (q_readPeople, .inl (cI, 20, .inl nf_readPeople)), (q_readQuarrels, .inl (cI, 25, .inl nf_readQuarrels)), (q_needs, .inl (cI, 3, .inl nf_needs)), (q_persons, .inl (cI, 20, .inl nf_persons)), (q_quarrels, .inl (cI, 25, .inl nf_quarrels)), (q_text, .inl (cI, 64, .inl f_text)), (q_now, .inl (cI, 194, .inl nf_now)), (q_isKept, .inl (cZ, 2, .inl nf_isKept))]) := by
  refine gg_M.of (cc := cX8_house) (maxL := 2) (rt := (some .int)) (by decide) rfl (Nat.le_of_ble_eq_true rfl) ?_
  intro p e s m below meth c A args Q hQ hx hb hr hml hts hown hlocks hin hA hS hP hK hD ls hl
  replace hown : s.vm.findClass RX8 = some m.cls := hown
  replace hl : lv_has ls 2 [(0, .ref q)] := hl
  have k88 := (hts (.fieldLink RX8 88 "AbsentCarpetsModel" "readR" "I") (List.mem_of_getElem? (i := 1) rfl))
  have k108 := (hts (.fieldLink RX8 108 "AbsentCarpetsModel" "rooms" "I") (List.mem_of_getElem? (i := 2) rfl))
  have k81 := (hts (.fieldLink RX8 81 "AbsentCarpetsModel" "readP" "I") (List.mem_of_getElem? (i := 3) rfl))
  have k111 := (hts (.fieldLink RX8 111 "AbsentCarpetsModel" "people" "I") (List.mem_of_getElem? (i := 4) rfl))
  have k91 := (hts (.fieldLink RX8 91 "AbsentCarpetsModel" "readQ" "I") (List.mem_of_getElem? (i := 5) rfl))
  have k114 := (hts (.fieldLink RX8 114 "AbsentCarpetsModel" "pairs" "I") (List.mem_of_getElem? (i := 6) rfl))
  have k19 := (hts (.fieldLink RX8 19 "AbsentCarpetsModel" "needs" "[I") (List.mem_of_getElem? (i := 7) rfl))
  have k7 := (hts (.fieldLink RX8 7 "AbsentCarpetsModel" "readNeeds" "[I") (List.mem_of_getElem? (i := 8) rfl))
  have k22 := (hts (.fieldLink RX8 22 "AbsentCarpetsModel" "persons" "[I") (List.mem_of_getElem? (i := 9) rfl))
  have k13 := (hts (.fieldLink RX8 13 "AbsentCarpetsModel" "readPeople" "[I") (List.mem_of_getElem? (i := 10) rfl))
  have k25 := (hts (.fieldLink RX8 25 "AbsentCarpetsModel" "quarrels" "[I") (List.mem_of_getElem? (i := 11) rfl))
  have k16 := (hts (.fieldLink RX8 16 "AbsentCarpetsModel" "readQuarrels" "[I") (List.mem_of_getElem? (i := 12) rfl))
  have k31 := (hts (.fieldLink RX8 31 "AbsentCarpetsModel" "now" "[I") (List.mem_of_getElem? (i := 13) rfl))
  have k117 := (hts (.fieldLink RX8 117 "AbsentCarpetsModel" "acts" "I") (List.mem_of_getElem? (i := 14) rfl))
  have k50 := (hts (.fieldLink RX8 50 "AbsentCarpetsModel" "isKept" "[Z") (List.mem_of_getElem? (i := 15) rfl))
  have iX8 : ∀ w ∈ wsX80, w ∈ wsX8_house := fun _ h => List.mem_cons_of_mem _ (List.mem_append_right _ (h))
  have L38 : ∀ (w10 : Int32) (w11 : Int32) (w12 : Int32) (w13 : Int32) (w14 : Int32) (w15 : Int32) (w16 : Int32) (w17 : Int32) (w18 : Int32) (w19 : (Nat → Int32)) (w20 : (Nat → Int32)) (w21 : (Nat → Int32)) (w22 : (Nat → Int32)) (w23 : (Nat → Int32)) (w24 : (Nat → Int32)) (w25 : (Nat → Int32)) (w28 : (Nat → Int32)), (∀ (H : Heap) (locs : List Loc) (ls : Array Slot), va_P D vwCl [(q, .inr (8, [.ref q_readNeeds, .ref q_readPeople, .ref q_readQuarrels, .int w10, .int w11, .int w12, .ref q_needs, .ref q_persons, .ref q_quarrels, .int w13, .int w14, .int w15, .ref q_text, .int f_length, .int w16, .int w17, .ref q_now, .int w18, .int f_next, .ref q_row, .ref q_least, .ref q_told, .ref q_ways, .ref q_then, .long f_seed, .ref q_isKept, .ref q_kept])), (q_readNeeds, .inl (cI, 3, .inl w19)), (q_readPeople, .inl (cI, 20, .inl w20)), (q_readQuarrels, .inl (cI, 25, .inl w21)), (q_needs, .inl (cI, 3, .inl w28)), (q_persons, .inl (cI, 20, .inl w22)), (q_quarrels, .inl (cI, 25, .inl w23)), (q_text, .inl (cI, 64, .inl f_text)), (q_now, .inl (cI, 194, .inl w24)), (q_isKept, .inl (cZ, 2, .inl w25))] H → va_D A [(q, .inr (8, [.ref q_readNeeds, .ref q_readPeople, .ref q_readQuarrels, .int w10, .int w11, .int w12, .ref q_needs, .ref q_persons, .ref q_quarrels, .int w13, .int w14, .int w15, .ref q_text, .int f_length, .int w16, .int w17, .ref q_now, .int w18, .int f_next, .ref q_row, .ref q_least, .ref q_told, .ref q_ways, .ref q_then, .long f_seed, .ref q_isKept, .ref q_kept])), (q_readNeeds, .inl (cI, 3, .inl w19)), (q_readPeople, .inl (cI, 20, .inl w20)), (q_readQuarrels, .inl (cI, 25, .inl w21)), (q_needs, .inl (cI, 3, .inl w28)), (q_persons, .inl (cI, 20, .inl w22)), (q_quarrels, .inl (cI, 25, .inl w23)), (q_text, .inl (cI, 64, .inl f_text)), (q_now, .inl (cI, 194, .inl w24)), (q_isKept, .inl (cZ, 2, .inl w25))] → va_S A s.heap H locs → lv_has ls 2 [(0, .ref q)] → W p l e ({ frames := 5, cells := 0, slots := 0, locals := 114 } : Room) s m args below meth c H locs 0 0 Q (F0 m 61 ls [])) → ∀ (nlp : Nat) (w26 : (Nat → Int32)) (y27 : Int32), gg_lpF (fun (s : ((Nat → Int32) × Int32)) => pX8_house_L38 f_length f_text w10 w11 w12 w13 w14 w15 w16 w17 w18 w19 w20 w21 w22 w23 w24 w25 s.1 s.2) nlp (w26, y27) = some w28 → ∀ (H : Heap) (locs : List Loc) (ls : Array Slot), va_P D vwCl [(q, .inr (8, [.ref q_readNeeds, .ref q_readPeople, .ref q_readQuarrels, .int w10, .int w11, .int w12, .ref q_needs, .ref q_persons, .ref q_quarrels, .int w13, .int w14, .int w15, .ref q_text, .int f_length, .int w16, .int w17, .ref q_now, .int w18, .int f_next, .ref q_row, .ref q_least, .ref q_told, .ref q_ways, .ref q_then, .long f_seed, .ref q_isKept, .ref q_kept])), (q_readNeeds, .inl (cI, 3, .inl w19)), (q_readPeople, .inl (cI, 20, .inl w20)), (q_readQuarrels, .inl (cI, 25, .inl w21)), (q_needs, .inl (cI, 3, .inl w26)), (q_persons, .inl (cI, 20, .inl w22)), (q_quarrels, .inl (cI, 25, .inl w23)), (q_text, .inl (cI, 64, .inl f_text)), (q_now, .inl (cI, 194, .inl w24)), (q_isKept, .inl (cZ, 2, .inl w25))] H → va_D A [(q, .inr (8, [.ref q_readNeeds, .ref q_readPeople, .ref q_readQuarrels, .int w10, .int w11, .int w12, .ref q_needs, .ref q_persons, .ref q_quarrels, .int w13, .int w14, .int w15, .ref q_text, .int f_length, .int w16, .int w17, .ref q_now, .int w18, .int f_next, .ref q_row, .ref q_least, .ref q_told, .ref q_ways, .ref q_then, .long f_seed, .ref q_isKept, .ref q_kept])), (q_readNeeds, .inl (cI, 3, .inl w19)), (q_readPeople, .inl (cI, 20, .inl w20)), (q_readQuarrels, .inl (cI, 25, .inl w21)), (q_needs, .inl (cI, 3, .inl w26)), (q_persons, .inl (cI, 20, .inl w22)), (q_quarrels, .inl (cI, 25, .inl w23)), (q_text, .inl (cI, 64, .inl f_text)), (q_now, .inl (cI, 194, .inl w24)), (q_isKept, .inl (cZ, 2, .inl w25))] → va_S A s.heap H locs → lv_has ls 2 [(0, .ref q), (1, .int y27)] → W p l e ({ frames := 5, cells := 0, slots := 0, locals := 114 } : Room) s m args below meth c H locs 0 0 Q (F0 m 38 ls []) := by
    intro w10 w11 w12 w13 w14 w15 w16 w17 w18 w19 w20 w21 w22 w23 w24 w25 w28 hE nlp
    induction nlp with
    | zero => intro w26 y27 hf; cases hf
    | succ nlp ih =>
      intro w26 y27 hf H locs ls hP hD hS hl
      obtain ⟨zz, hz, hzE, hzN⟩ := gg_lpF_x hf
      replace hf : pX8_house_L38 f_length f_text w10 w11 w12 w13 w14 w15 w16 w17 w18 w19 w20 w21 w22 w23 w24 w25 w26 y27 = some zz := hz
      unfold pX8_house_L38 at hf
      refine lv_iload_n hx hb dX8_house_38 rfl (lv_at hl 1 rfl) ?_
      refine lv_iconst (v := (3 : Int32)) hx hb dX8_house_39 (by decide) ?_
      refine lv_icmp_ge (tgt := 61) hx hb dX8_house_40 (by decide) (fun hc => ?_) (fun hc => ?_)
      · replace hf := gg_pos hf hc
        have hq := hzE _ (Option.some.inj hf).symm
        cases hq
        exact hE _ _ _ hP hD hS (lv_sub hl [0] rfl)
      · replace hf := gg_neg hf hc
        refine lv_aload_n hx hb dX8_house_43 rfl (lv_at hl 0 rfl) ?_
        refine gg_get hx hb hts iX8 hown hK hP 0 rfl rfl 6 (by decide) k19 rfl rfl dX8_house_44 ?_
        refine lv_iload_n hx hb dX8_house_47 rfl (lv_at hl 1 rfl) ?_
        refine lv_aload_n hx hb dX8_house_48 rfl (lv_at hl 0 rfl) ?_
        refine gg_get hx hb hts iX8 hown hK hP 0 rfl rfl 0 (by decide) k7 rfl rfl dX8_house_49 ?_
        refine lv_iload_n hx hb dX8_house_52 rfl (lv_at hl 1 rfl) ?_
        refine gg_iald hx hb hK hP 1 0 rfl rfl dX8_house_53 hf (fun hf => ?_)
        refine gg_iast (ws' := fun g30 => [(q, .inr (8, [.ref q_readNeeds, .ref q_readPeople, .ref q_readQuarrels, .int w10, .int w11, .int w12, .ref q_needs, .ref q_persons, .ref q_quarrels, .int w13, .int w14, .int w15, .ref q_text, .int f_length, .int w16, .int w17, .ref q_now, .int w18, .int f_next, .ref q_row, .ref q_least, .ref q_told, .ref q_ways, .ref q_then, .long f_seed, .ref q_isKept, .ref q_kept])), (q_readNeeds, .inl (cI, 3, .inl w19)), (q_readPeople, .inl (cI, 20, .inl w20)), (q_readQuarrels, .inl (cI, 25, .inl w21)), (q_needs, .inl (cI, 3, .inl g30)), (q_persons, .inl (cI, 20, .inl w22)), (q_quarrels, .inl (cI, 25, .inl w23)), (q_text, .inl (cI, 64, .inl f_text)), (q_now, .inl (cI, 194, .inl w24)), (q_isKept, .inl (cZ, 2, .inl w25))]) hx hb hK hP hD hS 4 0 rfl rfl dX8_house_54 (fun _ => rfl) hf (fun g30 H locs hP hD hS hf => ?_)
        refine gg_iinc (cst := (1 : Int32)) (k := 1) (lv' := fun v31 => [(1, .int v31), (0, .ref q)]) hx hb dX8_house_55 hl rfl (by decide) (by decide) (fun _ => rfl) hf (fun v31 ls hl hf => ?_)
        refine lv_goto (tgt := 38) hx hb dX8_house_58 (by decide) ?_
        exact ih _ _ (hzN _ (Option.some.inj hf).symm) _ _ _ hP hD hS (lv_sub hl [1, 0] rfl)
  have L63 : ∀ (w33 : Int32) (w34 : Int32) (w35 : Int32) (w36 : Int32) (w37 : Int32) (w38 : Int32) (w39 : Int32) (w40 : Int32) (w41 : Int32) (w42 : (Nat → Int32)) (w43 : (Nat → Int32)) (w44 : (Nat → Int32)) (w45 : (Nat → Int32)) (w46 : (Nat → Int32)) (w47 : (Nat → Int32)) (w48 : (Nat → Int32)) (w51 : (Nat → Int32)), (∀ (H : Heap) (locs : List Loc) (ls : Array Slot), va_P D vwCl [(q, .inr (8, [.ref q_readNeeds, .ref q_readPeople, .ref q_readQuarrels, .int w33, .int w34, .int w35, .ref q_needs, .ref q_persons, .ref q_quarrels, .int w36, .int w37, .int w38, .ref q_text, .int f_length, .int w39, .int w40, .ref q_now, .int w41, .int f_next, .ref q_row, .ref q_least, .ref q_told, .ref q_ways, .ref q_then, .long f_seed, .ref q_isKept, .ref q_kept])), (q_readNeeds, .inl (cI, 3, .inl w42)), (q_readPeople, .inl (cI, 20, .inl w43)), (q_readQuarrels, .inl (cI, 25, .inl w44)), (q_needs, .inl (cI, 3, .inl w45)), (q_persons, .inl (cI, 20, .inl w51)), (q_quarrels, .inl (cI, 25, .inl w46)), (q_text, .inl (cI, 64, .inl f_text)), (q_now, .inl (cI, 194, .inl w47)), (q_isKept, .inl (cZ, 2, .inl w48))] H → va_D A [(q, .inr (8, [.ref q_readNeeds, .ref q_readPeople, .ref q_readQuarrels, .int w33, .int w34, .int w35, .ref q_needs, .ref q_persons, .ref q_quarrels, .int w36, .int w37, .int w38, .ref q_text, .int f_length, .int w39, .int w40, .ref q_now, .int w41, .int f_next, .ref q_row, .ref q_least, .ref q_told, .ref q_ways, .ref q_then, .long f_seed, .ref q_isKept, .ref q_kept])), (q_readNeeds, .inl (cI, 3, .inl w42)), (q_readPeople, .inl (cI, 20, .inl w43)), (q_readQuarrels, .inl (cI, 25, .inl w44)), (q_needs, .inl (cI, 3, .inl w45)), (q_persons, .inl (cI, 20, .inl w51)), (q_quarrels, .inl (cI, 25, .inl w46)), (q_text, .inl (cI, 64, .inl f_text)), (q_now, .inl (cI, 194, .inl w47)), (q_isKept, .inl (cZ, 2, .inl w48))] → va_S A s.heap H locs → lv_has ls 2 [(0, .ref q)] → W p l e ({ frames := 5, cells := 0, slots := 0, locals := 114 } : Room) s m args below meth c H locs 0 0 Q (F0 m 87 ls [])) → ∀ (nlp : Nat) (w49 : (Nat → Int32)) (y50 : Int32), gg_lpF (fun (s : ((Nat → Int32) × Int32)) => pX8_house_L63 f_length f_text w33 w34 w35 w36 w37 w38 w39 w40 w41 w42 w43 w44 w45 w46 w47 w48 s.1 s.2) nlp (w49, y50) = some w51 → ∀ (H : Heap) (locs : List Loc) (ls : Array Slot), va_P D vwCl [(q, .inr (8, [.ref q_readNeeds, .ref q_readPeople, .ref q_readQuarrels, .int w33, .int w34, .int w35, .ref q_needs, .ref q_persons, .ref q_quarrels, .int w36, .int w37, .int w38, .ref q_text, .int f_length, .int w39, .int w40, .ref q_now, .int w41, .int f_next, .ref q_row, .ref q_least, .ref q_told, .ref q_ways, .ref q_then, .long f_seed, .ref q_isKept, .ref q_kept])), (q_readNeeds, .inl (cI, 3, .inl w42)), (q_readPeople, .inl (cI, 20, .inl w43)), (q_readQuarrels, .inl (cI, 25, .inl w44)), (q_needs, .inl (cI, 3, .inl w45)), (q_persons, .inl (cI, 20, .inl w49)), (q_quarrels, .inl (cI, 25, .inl w46)), (q_text, .inl (cI, 64, .inl f_text)), (q_now, .inl (cI, 194, .inl w47)), (q_isKept, .inl (cZ, 2, .inl w48))] H → va_D A [(q, .inr (8, [.ref q_readNeeds, .ref q_readPeople, .ref q_readQuarrels, .int w33, .int w34, .int w35, .ref q_needs, .ref q_persons, .ref q_quarrels, .int w36, .int w37, .int w38, .ref q_text, .int f_length, .int w39, .int w40, .ref q_now, .int w41, .int f_next, .ref q_row, .ref q_least, .ref q_told, .ref q_ways, .ref q_then, .long f_seed, .ref q_isKept, .ref q_kept])), (q_readNeeds, .inl (cI, 3, .inl w42)), (q_readPeople, .inl (cI, 20, .inl w43)), (q_readQuarrels, .inl (cI, 25, .inl w44)), (q_needs, .inl (cI, 3, .inl w45)), (q_persons, .inl (cI, 20, .inl w49)), (q_quarrels, .inl (cI, 25, .inl w46)), (q_text, .inl (cI, 64, .inl f_text)), (q_now, .inl (cI, 194, .inl w47)), (q_isKept, .inl (cZ, 2, .inl w48))] → va_S A s.heap H locs → lv_has ls 2 [(0, .ref q), (1, .int y50)] → W p l e ({ frames := 5, cells := 0, slots := 0, locals := 114 } : Room) s m args below meth c H locs 0 0 Q (F0 m 63 ls []) := by
    intro w33 w34 w35 w36 w37 w38 w39 w40 w41 w42 w43 w44 w45 w46 w47 w48 w51 hE nlp
    induction nlp with
    | zero => intro w49 y50 hf; cases hf
    | succ nlp ih =>
      intro w49 y50 hf H locs ls hP hD hS hl
      obtain ⟨zz, hz, hzE, hzN⟩ := gg_lpF_x hf
      replace hf : pX8_house_L63 f_length f_text w33 w34 w35 w36 w37 w38 w39 w40 w41 w42 w43 w44 w45 w46 w47 w48 w49 y50 = some zz := hz
      unfold pX8_house_L63 at hf
      refine lv_iload_n hx hb dX8_house_63 rfl (lv_at hl 1 rfl) ?_
      refine lv_bipush (v := (20 : Int32)) hx hb dX8_house_64 (by decide) ?_
      refine lv_icmp_ge (tgt := 87) hx hb dX8_house_66 (by decide) (fun hc => ?_) (fun hc => ?_)
      · replace hf := gg_pos hf hc
        have hq := hzE _ (Option.some.inj hf).symm
        cases hq
        exact hE _ _ _ hP hD hS (lv_sub hl [0] rfl)
      · replace hf := gg_neg hf hc
        refine lv_aload_n hx hb dX8_house_69 rfl (lv_at hl 0 rfl) ?_
        refine gg_get hx hb hts iX8 hown hK hP 0 rfl rfl 7 (by decide) k22 rfl rfl dX8_house_70 ?_
        refine lv_iload_n hx hb dX8_house_73 rfl (lv_at hl 1 rfl) ?_
        refine lv_aload_n hx hb dX8_house_74 rfl (lv_at hl 0 rfl) ?_
        refine gg_get hx hb hts iX8 hown hK hP 0 rfl rfl 1 (by decide) k13 rfl rfl dX8_house_75 ?_
        refine lv_iload_n hx hb dX8_house_78 rfl (lv_at hl 1 rfl) ?_
        refine gg_iald hx hb hK hP 2 0 rfl rfl dX8_house_79 hf (fun hf => ?_)
        refine gg_iast (ws' := fun g53 => [(q, .inr (8, [.ref q_readNeeds, .ref q_readPeople, .ref q_readQuarrels, .int w33, .int w34, .int w35, .ref q_needs, .ref q_persons, .ref q_quarrels, .int w36, .int w37, .int w38, .ref q_text, .int f_length, .int w39, .int w40, .ref q_now, .int w41, .int f_next, .ref q_row, .ref q_least, .ref q_told, .ref q_ways, .ref q_then, .long f_seed, .ref q_isKept, .ref q_kept])), (q_readNeeds, .inl (cI, 3, .inl w42)), (q_readPeople, .inl (cI, 20, .inl w43)), (q_readQuarrels, .inl (cI, 25, .inl w44)), (q_needs, .inl (cI, 3, .inl w45)), (q_persons, .inl (cI, 20, .inl g53)), (q_quarrels, .inl (cI, 25, .inl w46)), (q_text, .inl (cI, 64, .inl f_text)), (q_now, .inl (cI, 194, .inl w47)), (q_isKept, .inl (cZ, 2, .inl w48))]) hx hb hK hP hD hS 5 0 rfl rfl dX8_house_80 (fun _ => rfl) hf (fun g53 H locs hP hD hS hf => ?_)
        refine gg_iinc (cst := (1 : Int32)) (k := 1) (lv' := fun v54 => [(1, .int v54), (0, .ref q)]) hx hb dX8_house_81 hl rfl (by decide) (by decide) (fun _ => rfl) hf (fun v54 ls hl hf => ?_)
        refine lv_goto (tgt := 63) hx hb dX8_house_84 (by decide) ?_
        exact ih _ _ (hzN _ (Option.some.inj hf).symm) _ _ _ hP hD hS (lv_sub hl [1, 0] rfl)
  have L89 : ∀ (w56 : Int32) (w57 : Int32) (w58 : Int32) (w59 : Int32) (w60 : Int32) (w61 : Int32) (w62 : Int32) (w63 : Int32) (w64 : Int32) (w65 : (Nat → Int32)) (w66 : (Nat → Int32)) (w67 : (Nat → Int32)) (w68 : (Nat → Int32)) (w69 : (Nat → Int32)) (w70 : (Nat → Int32)) (w71 : (Nat → Int32)) (w74 : (Nat → Int32)), (∀ (H : Heap) (locs : List Loc) (ls : Array Slot), va_P D vwCl [(q, .inr (8, [.ref q_readNeeds, .ref q_readPeople, .ref q_readQuarrels, .int w56, .int w57, .int w58, .ref q_needs, .ref q_persons, .ref q_quarrels, .int w59, .int w60, .int w61, .ref q_text, .int f_length, .int w62, .int w63, .ref q_now, .int w64, .int f_next, .ref q_row, .ref q_least, .ref q_told, .ref q_ways, .ref q_then, .long f_seed, .ref q_isKept, .ref q_kept])), (q_readNeeds, .inl (cI, 3, .inl w65)), (q_readPeople, .inl (cI, 20, .inl w66)), (q_readQuarrels, .inl (cI, 25, .inl w67)), (q_needs, .inl (cI, 3, .inl w68)), (q_persons, .inl (cI, 20, .inl w69)), (q_quarrels, .inl (cI, 25, .inl w74)), (q_text, .inl (cI, 64, .inl f_text)), (q_now, .inl (cI, 194, .inl w70)), (q_isKept, .inl (cZ, 2, .inl w71))] H → va_D A [(q, .inr (8, [.ref q_readNeeds, .ref q_readPeople, .ref q_readQuarrels, .int w56, .int w57, .int w58, .ref q_needs, .ref q_persons, .ref q_quarrels, .int w59, .int w60, .int w61, .ref q_text, .int f_length, .int w62, .int w63, .ref q_now, .int w64, .int f_next, .ref q_row, .ref q_least, .ref q_told, .ref q_ways, .ref q_then, .long f_seed, .ref q_isKept, .ref q_kept])), (q_readNeeds, .inl (cI, 3, .inl w65)), (q_readPeople, .inl (cI, 20, .inl w66)), (q_readQuarrels, .inl (cI, 25, .inl w67)), (q_needs, .inl (cI, 3, .inl w68)), (q_persons, .inl (cI, 20, .inl w69)), (q_quarrels, .inl (cI, 25, .inl w74)), (q_text, .inl (cI, 64, .inl f_text)), (q_now, .inl (cI, 194, .inl w70)), (q_isKept, .inl (cZ, 2, .inl w71))] → va_S A s.heap H locs → lv_has ls 2 [(0, .ref q)] → W p l e ({ frames := 5, cells := 0, slots := 0, locals := 114 } : Room) s m args below meth c H locs 0 0 Q (F0 m 113 ls [])) → ∀ (nlp : Nat) (w72 : (Nat → Int32)) (y73 : Int32), gg_lpF (fun (s : ((Nat → Int32) × Int32)) => pX8_house_L89 f_length f_text w56 w57 w58 w59 w60 w61 w62 w63 w64 w65 w66 w67 w68 w69 w70 w71 s.1 s.2) nlp (w72, y73) = some w74 → ∀ (H : Heap) (locs : List Loc) (ls : Array Slot), va_P D vwCl [(q, .inr (8, [.ref q_readNeeds, .ref q_readPeople, .ref q_readQuarrels, .int w56, .int w57, .int w58, .ref q_needs, .ref q_persons, .ref q_quarrels, .int w59, .int w60, .int w61, .ref q_text, .int f_length, .int w62, .int w63, .ref q_now, .int w64, .int f_next, .ref q_row, .ref q_least, .ref q_told, .ref q_ways, .ref q_then, .long f_seed, .ref q_isKept, .ref q_kept])), (q_readNeeds, .inl (cI, 3, .inl w65)), (q_readPeople, .inl (cI, 20, .inl w66)), (q_readQuarrels, .inl (cI, 25, .inl w67)), (q_needs, .inl (cI, 3, .inl w68)), (q_persons, .inl (cI, 20, .inl w69)), (q_quarrels, .inl (cI, 25, .inl w72)), (q_text, .inl (cI, 64, .inl f_text)), (q_now, .inl (cI, 194, .inl w70)), (q_isKept, .inl (cZ, 2, .inl w71))] H → va_D A [(q, .inr (8, [.ref q_readNeeds, .ref q_readPeople, .ref q_readQuarrels, .int w56, .int w57, .int w58, .ref q_needs, .ref q_persons, .ref q_quarrels, .int w59, .int w60, .int w61, .ref q_text, .int f_length, .int w62, .int w63, .ref q_now, .int w64, .int f_next, .ref q_row, .ref q_least, .ref q_told, .ref q_ways, .ref q_then, .long f_seed, .ref q_isKept, .ref q_kept])), (q_readNeeds, .inl (cI, 3, .inl w65)), (q_readPeople, .inl (cI, 20, .inl w66)), (q_readQuarrels, .inl (cI, 25, .inl w67)), (q_needs, .inl (cI, 3, .inl w68)), (q_persons, .inl (cI, 20, .inl w69)), (q_quarrels, .inl (cI, 25, .inl w72)), (q_text, .inl (cI, 64, .inl f_text)), (q_now, .inl (cI, 194, .inl w70)), (q_isKept, .inl (cZ, 2, .inl w71))] → va_S A s.heap H locs → lv_has ls 2 [(0, .ref q), (1, .int y73)] → W p l e ({ frames := 5, cells := 0, slots := 0, locals := 114 } : Room) s m args below meth c H locs 0 0 Q (F0 m 89 ls []) := by
    intro w56 w57 w58 w59 w60 w61 w62 w63 w64 w65 w66 w67 w68 w69 w70 w71 w74 hE nlp
    induction nlp with
    | zero => intro w72 y73 hf; cases hf
    | succ nlp ih =>
      intro w72 y73 hf H locs ls hP hD hS hl
      obtain ⟨zz, hz, hzE, hzN⟩ := gg_lpF_x hf
      replace hf : pX8_house_L89 f_length f_text w56 w57 w58 w59 w60 w61 w62 w63 w64 w65 w66 w67 w68 w69 w70 w71 w72 y73 = some zz := hz
      unfold pX8_house_L89 at hf
      refine lv_iload_n hx hb dX8_house_89 rfl (lv_at hl 1 rfl) ?_
      refine lv_bipush (v := (25 : Int32)) hx hb dX8_house_90 (by decide) ?_
      refine lv_icmp_ge (tgt := 113) hx hb dX8_house_92 (by decide) (fun hc => ?_) (fun hc => ?_)
      · replace hf := gg_pos hf hc
        have hq := hzE _ (Option.some.inj hf).symm
        cases hq
        exact hE _ _ _ hP hD hS (lv_sub hl [0] rfl)
      · replace hf := gg_neg hf hc
        refine lv_aload_n hx hb dX8_house_95 rfl (lv_at hl 0 rfl) ?_
        refine gg_get hx hb hts iX8 hown hK hP 0 rfl rfl 8 (by decide) k25 rfl rfl dX8_house_96 ?_
        refine lv_iload_n hx hb dX8_house_99 rfl (lv_at hl 1 rfl) ?_
        refine lv_aload_n hx hb dX8_house_100 rfl (lv_at hl 0 rfl) ?_
        refine gg_get hx hb hts iX8 hown hK hP 0 rfl rfl 2 (by decide) k16 rfl rfl dX8_house_101 ?_
        refine lv_iload_n hx hb dX8_house_104 rfl (lv_at hl 1 rfl) ?_
        refine gg_iald hx hb hK hP 3 0 rfl rfl dX8_house_105 hf (fun hf => ?_)
        refine gg_iast (ws' := fun g76 => [(q, .inr (8, [.ref q_readNeeds, .ref q_readPeople, .ref q_readQuarrels, .int w56, .int w57, .int w58, .ref q_needs, .ref q_persons, .ref q_quarrels, .int w59, .int w60, .int w61, .ref q_text, .int f_length, .int w62, .int w63, .ref q_now, .int w64, .int f_next, .ref q_row, .ref q_least, .ref q_told, .ref q_ways, .ref q_then, .long f_seed, .ref q_isKept, .ref q_kept])), (q_readNeeds, .inl (cI, 3, .inl w65)), (q_readPeople, .inl (cI, 20, .inl w66)), (q_readQuarrels, .inl (cI, 25, .inl w67)), (q_needs, .inl (cI, 3, .inl w68)), (q_persons, .inl (cI, 20, .inl w69)), (q_quarrels, .inl (cI, 25, .inl g76)), (q_text, .inl (cI, 64, .inl f_text)), (q_now, .inl (cI, 194, .inl w70)), (q_isKept, .inl (cZ, 2, .inl w71))]) hx hb hK hP hD hS 6 0 rfl rfl dX8_house_106 (fun _ => rfl) hf (fun g76 H locs hP hD hS hf => ?_)
        refine gg_iinc (cst := (1 : Int32)) (k := 1) (lv' := fun v77 => [(1, .int v77), (0, .ref q)]) hx hb dX8_house_107 hl rfl (by decide) (by decide) (fun _ => rfl) hf (fun v77 ls hl hf => ?_)
        refine lv_goto (tgt := 89) hx hb dX8_house_110 (by decide) ?_
        exact ih _ _ (hzN _ (Option.some.inj hf).symm) _ _ _ hP hD hS (lv_sub hl [1, 0] rfl)
  have L115 : ∀ (w79 : Int32) (w80 : Int32) (w81 : Int32) (w82 : Int32) (w83 : Int32) (w84 : Int32) (w85 : Int32) (w86 : Int32) (w87 : Int32) (w88 : (Nat → Int32)) (w89 : (Nat → Int32)) (w90 : (Nat → Int32)) (w91 : (Nat → Int32)) (w92 : (Nat → Int32)) (w93 : (Nat → Int32)) (w94 : (Nat → Int32)) (w97 : (Nat → Int32)), (∀ (H : Heap) (locs : List Loc) (ls : Array Slot), va_P D vwCl [(q, .inr (8, [.ref q_readNeeds, .ref q_readPeople, .ref q_readQuarrels, .int w79, .int w80, .int w81, .ref q_needs, .ref q_persons, .ref q_quarrels, .int w82, .int w83, .int w84, .ref q_text, .int f_length, .int w85, .int w86, .ref q_now, .int w87, .int f_next, .ref q_row, .ref q_least, .ref q_told, .ref q_ways, .ref q_then, .long f_seed, .ref q_isKept, .ref q_kept])), (q_readNeeds, .inl (cI, 3, .inl w88)), (q_readPeople, .inl (cI, 20, .inl w89)), (q_readQuarrels, .inl (cI, 25, .inl w90)), (q_needs, .inl (cI, 3, .inl w91)), (q_persons, .inl (cI, 20, .inl w92)), (q_quarrels, .inl (cI, 25, .inl w93)), (q_text, .inl (cI, 64, .inl f_text)), (q_now, .inl (cI, 194, .inl w97)), (q_isKept, .inl (cZ, 2, .inl w94))] H → va_D A [(q, .inr (8, [.ref q_readNeeds, .ref q_readPeople, .ref q_readQuarrels, .int w79, .int w80, .int w81, .ref q_needs, .ref q_persons, .ref q_quarrels, .int w82, .int w83, .int w84, .ref q_text, .int f_length, .int w85, .int w86, .ref q_now, .int w87, .int f_next, .ref q_row, .ref q_least, .ref q_told, .ref q_ways, .ref q_then, .long f_seed, .ref q_isKept, .ref q_kept])), (q_readNeeds, .inl (cI, 3, .inl w88)), (q_readPeople, .inl (cI, 20, .inl w89)), (q_readQuarrels, .inl (cI, 25, .inl w90)), (q_needs, .inl (cI, 3, .inl w91)), (q_persons, .inl (cI, 20, .inl w92)), (q_quarrels, .inl (cI, 25, .inl w93)), (q_text, .inl (cI, 64, .inl f_text)), (q_now, .inl (cI, 194, .inl w97)), (q_isKept, .inl (cZ, 2, .inl w94))] → va_S A s.heap H locs → lv_has ls 2 [(0, .ref q)] → W p l e ({ frames := 5, cells := 0, slots := 0, locals := 114 } : Room) s m args below meth c H locs 0 0 Q (F0 m 134 ls [])) → ∀ (nlp : Nat) (w95 : (Nat → Int32)) (y96 : Int32), gg_lpF (fun (s : ((Nat → Int32) × Int32)) => pX8_house_L115 f_length f_text w79 w80 w81 w82 w83 w84 w85 w86 w87 w88 w89 w90 w91 w92 w93 w94 s.1 s.2) nlp (w95, y96) = some w97 → ∀ (H : Heap) (locs : List Loc) (ls : Array Slot), va_P D vwCl [(q, .inr (8, [.ref q_readNeeds, .ref q_readPeople, .ref q_readQuarrels, .int w79, .int w80, .int w81, .ref q_needs, .ref q_persons, .ref q_quarrels, .int w82, .int w83, .int w84, .ref q_text, .int f_length, .int w85, .int w86, .ref q_now, .int w87, .int f_next, .ref q_row, .ref q_least, .ref q_told, .ref q_ways, .ref q_then, .long f_seed, .ref q_isKept, .ref q_kept])), (q_readNeeds, .inl (cI, 3, .inl w88)), (q_readPeople, .inl (cI, 20, .inl w89)), (q_readQuarrels, .inl (cI, 25, .inl w90)), (q_needs, .inl (cI, 3, .inl w91)), (q_persons, .inl (cI, 20, .inl w92)), (q_quarrels, .inl (cI, 25, .inl w93)), (q_text, .inl (cI, 64, .inl f_text)), (q_now, .inl (cI, 194, .inl w95)), (q_isKept, .inl (cZ, 2, .inl w94))] H → va_D A [(q, .inr (8, [.ref q_readNeeds, .ref q_readPeople, .ref q_readQuarrels, .int w79, .int w80, .int w81, .ref q_needs, .ref q_persons, .ref q_quarrels, .int w82, .int w83, .int w84, .ref q_text, .int f_length, .int w85, .int w86, .ref q_now, .int w87, .int f_next, .ref q_row, .ref q_least, .ref q_told, .ref q_ways, .ref q_then, .long f_seed, .ref q_isKept, .ref q_kept])), (q_readNeeds, .inl (cI, 3, .inl w88)), (q_readPeople, .inl (cI, 20, .inl w89)), (q_readQuarrels, .inl (cI, 25, .inl w90)), (q_needs, .inl (cI, 3, .inl w91)), (q_persons, .inl (cI, 20, .inl w92)), (q_quarrels, .inl (cI, 25, .inl w93)), (q_text, .inl (cI, 64, .inl f_text)), (q_now, .inl (cI, 194, .inl w95)), (q_isKept, .inl (cZ, 2, .inl w94))] → va_S A s.heap H locs → lv_has ls 2 [(0, .ref q), (1, .int y96)] → W p l e ({ frames := 5, cells := 0, slots := 0, locals := 114 } : Room) s m args below meth c H locs 0 0 Q (F0 m 115 ls []) := by
    intro w79 w80 w81 w82 w83 w84 w85 w86 w87 w88 w89 w90 w91 w92 w93 w94 w97 hE nlp
    induction nlp with
    | zero => intro w95 y96 hf; cases hf
    | succ nlp ih =>
      intro w95 y96 hf H locs ls hP hD hS hl
      obtain ⟨zz, hz, hzE, hzN⟩ := gg_lpF_x hf
      replace hf : pX8_house_L115 f_length f_text w79 w80 w81 w82 w83 w84 w85 w86 w87 w88 w89 w90 w91 w92 w93 w94 w95 y96 = some zz := hz
      unfold pX8_house_L115 at hf
      refine lv_iload_n hx hb dX8_house_115 rfl (lv_at hl 1 rfl) ?_
      refine lv_bipush (v := (97 : Int32)) hx hb dX8_house_116 (by decide) ?_
      refine lv_icmp_ge (tgt := 134) hx hb dX8_house_118 (by decide) (fun hc => ?_) (fun hc => ?_)
      · replace hf := gg_pos hf hc
        have hq := hzE _ (Option.some.inj hf).symm
        cases hq
        exact hE _ _ _ hP hD hS (lv_sub hl [0] rfl)
      · replace hf := gg_neg hf hc
        refine lv_aload_n hx hb dX8_house_121 rfl (lv_at hl 0 rfl) ?_
        refine gg_get hx hb hts iX8 hown hK hP 0 rfl rfl 16 (by decide) k31 rfl rfl dX8_house_122 ?_
        refine lv_iload_n hx hb dX8_house_125 rfl (lv_at hl 1 rfl) ?_
        refine lv_iconst (v := (0 : Int32)) hx hb dX8_house_126 (by decide) ?_
        refine gg_iast (ws' := fun g98 => [(q, .inr (8, [.ref q_readNeeds, .ref q_readPeople, .ref q_readQuarrels, .int w79, .int w80, .int w81, .ref q_needs, .ref q_persons, .ref q_quarrels, .int w82, .int w83, .int w84, .ref q_text, .int f_length, .int w85, .int w86, .ref q_now, .int w87, .int f_next, .ref q_row, .ref q_least, .ref q_told, .ref q_ways, .ref q_then, .long f_seed, .ref q_isKept, .ref q_kept])), (q_readNeeds, .inl (cI, 3, .inl w88)), (q_readPeople, .inl (cI, 20, .inl w89)), (q_readQuarrels, .inl (cI, 25, .inl w90)), (q_needs, .inl (cI, 3, .inl w91)), (q_persons, .inl (cI, 20, .inl w92)), (q_quarrels, .inl (cI, 25, .inl w93)), (q_text, .inl (cI, 64, .inl f_text)), (q_now, .inl (cI, 194, .inl g98)), (q_isKept, .inl (cZ, 2, .inl w94))]) hx hb hK hP hD hS 8 0 rfl rfl dX8_house_127 (fun _ => rfl) hf (fun g98 H locs hP hD hS hf => ?_)
        refine gg_iinc (cst := (1 : Int32)) (k := 1) (lv' := fun v99 => [(1, .int v99), (0, .ref q)]) hx hb dX8_house_128 hl rfl (by decide) (by decide) (fun _ => rfl) hf (fun v99 ls hl hf => ?_)
        refine lv_goto (tgt := 115) hx hb dX8_house_131 (by decide) ?_
        exact ih _ _ (hzN _ (Option.some.inj hf).symm) _ _ _ hP hD hS (lv_sub hl [1, 0] rfl)
  unfold pX8_house at hf
  refine lv_aload_n hx hb dX8_house_0 rfl (lv_at hl 0 rfl) ?_
  obtain ⟨r1, u2, u3, u4, u5, u6, u7, u8, u9, hu, hf⟩ := gg_c9_x hf
  refine gg_callV (wr := [(q_needs, .inl (cI, 3, .inl f_needs)), (q_persons, .inl (cI, 20, .inl f_persons)), (q_quarrels, .inl (cI, 25, .inl f_quarrels)), (q_now, .inl (cI, 194, .inl f_now)), (q_isKept, .inl (cZ, 2, .inl f_isKept))]) (w2 := fun _ => [(q, .inr (8, [.ref q_readNeeds, .ref q_readPeople, .ref q_readQuarrels, .int u2, .int u3, .int u4, .ref q_needs, .ref q_persons, .ref q_quarrels, .int f_rooms, .int f_people, .int f_pairs, .ref q_text, .int f_length, .int u5, .int u6, .ref q_now, .int f_acts, .int f_next, .ref q_row, .ref q_least, .ref q_told, .ref q_ways, .ref q_then, .long f_seed, .ref q_isKept, .ref q_kept])), (q_readNeeds, .inl (cI, 3, .inl u7)), (q_readPeople, .inl (cI, 20, .inl u8)), (q_readQuarrels, .inl (cI, 25, .inl u9)), (q_needs, .inl (cI, 3, .inl f_needs)), (q_persons, .inl (cI, 20, .inl f_persons)), (q_quarrels, .inl (cI, 25, .inl f_quarrels)), (q_text, .inl (cI, 64, .inl f_text)), (q_now, .inl (cI, 194, .inl f_now)), (q_isKept, .inl (cZ, 2, .inl f_isKept))]) ⟨hx, hb, hml, hown, hts⟩ (mX8_readText l D cI cJ cZ cR q q_readNeeds q_readPeople q_readQuarrels q_text q_needs q_persons q_quarrels q_now q_row q_least q_told q_ways q_then q_isKept q_kept f_readR f_readP f_readQ f_rooms f_people f_pairs f_length f_at f_faultAt f_acts f_next f_seed f_readNeeds f_readPeople f_readQuarrels f_text  r1 u2 u3 u4 u5 u6 u7 u8 u9 hu) (cwV 0 hts gX8_house_X8_readText rfl rfl rfl (by decide +kernel) ⟨Nat.le_of_ble_eq_true rfl, Nat.le_of_ble_eq_true rfl⟩) hK hP hD hS hA 0 rfl rfl rfl rfl hl.1 rfl (Nat.le_of_ble_eq_true rfl) dX8_house_1 ⟨Nat.le_of_ble_eq_true rfl, Nat.le_of_ble_eq_true rfl⟩ [0, 1, 2, 3, 7] [4, 5, 6, 8, 9] rfl rfl rfl rfl rfl [5, 6, 7, 8, 0, 1, 2, 9, 3, 4] rfl (fun _ => rfl) (fun _ H locs hP hD hS => ?_)
  refine gg_st_i ?_
  refine lv_bipush (v := (-9 : Int32)) hx hb dX8_house_4 (by decide) ?_
  refine lv_icmp_eq (tgt := 12) hx hb dX8_house_6 (by decide) (fun hc => ?_) (fun hc => ?_)
  · replace hf := gg_pos hf hc
    refine lv_aload_n hx hb dX8_house_12 rfl (lv_at hl 0 rfl) ?_
    refine lv_aload_n hx hb dX8_house_13 rfl (lv_at hl 0 rfl) ?_
    refine gg_get hx hb hts iX8 hown hK hP 0 rfl rfl 3 (by decide) k88 rfl rfl dX8_house_14 ?_
    refine gg_put (ws' := [(q, .inr (8, [.ref q_readNeeds, .ref q_readPeople, .ref q_readQuarrels, .int u2, .int u3, .int u4, .ref q_needs, .ref q_persons, .ref q_quarrels, .int u2, .int f_people, .int f_pairs, .ref q_text, .int f_length, .int u5, .int u6, .ref q_now, .int f_acts, .int f_next, .ref q_row, .ref q_least, .ref q_told, .ref q_ways, .ref q_then, .long f_seed, .ref q_isKept, .ref q_kept])), (q_readNeeds, .inl (cI, 3, .inl u7)), (q_readPeople, .inl (cI, 20, .inl u8)), (q_readQuarrels, .inl (cI, 25, .inl u9)), (q_needs, .inl (cI, 3, .inl f_needs)), (q_persons, .inl (cI, 20, .inl f_persons)), (q_quarrels, .inl (cI, 25, .inl f_quarrels)), (q_text, .inl (cI, 64, .inl f_text)), (q_now, .inl (cI, 194, .inl f_now)), (q_isKept, .inl (cZ, 2, .inl f_isKept))]) hx hb hts iX8 tyX8_ok nmX8 hown hK hP hD hS 0 rfl rfl 9 (by decide) k108 rfl rfl rfl rfl rfl (Nat.le_of_ble_eq_true rfl) dX8_house_17 rfl (fun H locs hP hD hS => ?_)
    refine lv_aload_n hx hb dX8_house_20 rfl (lv_at hl 0 rfl) ?_
    refine lv_aload_n hx hb dX8_house_21 rfl (lv_at hl 0 rfl) ?_
    refine gg_get hx hb hts iX8 hown hK hP 0 rfl rfl 4 (by decide) k81 rfl rfl dX8_house_22 ?_
    refine gg_put (ws' := [(q, .inr (8, [.ref q_readNeeds, .ref q_readPeople, .ref q_readQuarrels, .int u2, .int u3, .int u4, .ref q_needs, .ref q_persons, .ref q_quarrels, .int u2, .int u3, .int f_pairs, .ref q_text, .int f_length, .int u5, .int u6, .ref q_now, .int f_acts, .int f_next, .ref q_row, .ref q_least, .ref q_told, .ref q_ways, .ref q_then, .long f_seed, .ref q_isKept, .ref q_kept])), (q_readNeeds, .inl (cI, 3, .inl u7)), (q_readPeople, .inl (cI, 20, .inl u8)), (q_readQuarrels, .inl (cI, 25, .inl u9)), (q_needs, .inl (cI, 3, .inl f_needs)), (q_persons, .inl (cI, 20, .inl f_persons)), (q_quarrels, .inl (cI, 25, .inl f_quarrels)), (q_text, .inl (cI, 64, .inl f_text)), (q_now, .inl (cI, 194, .inl f_now)), (q_isKept, .inl (cZ, 2, .inl f_isKept))]) hx hb hts iX8 tyX8_ok nmX8 hown hK hP hD hS 0 rfl rfl 10 (by decide) k111 rfl rfl rfl rfl rfl (Nat.le_of_ble_eq_true rfl) dX8_house_25 rfl (fun H locs hP hD hS => ?_)
    refine lv_aload_n hx hb dX8_house_28 rfl (lv_at hl 0 rfl) ?_
    refine lv_aload_n hx hb dX8_house_29 rfl (lv_at hl 0 rfl) ?_
    refine gg_get hx hb hts iX8 hown hK hP 0 rfl rfl 5 (by decide) k91 rfl rfl dX8_house_30 ?_
    refine gg_put (ws' := [(q, .inr (8, [.ref q_readNeeds, .ref q_readPeople, .ref q_readQuarrels, .int u2, .int u3, .int u4, .ref q_needs, .ref q_persons, .ref q_quarrels, .int u2, .int u3, .int u4, .ref q_text, .int f_length, .int u5, .int u6, .ref q_now, .int f_acts, .int f_next, .ref q_row, .ref q_least, .ref q_told, .ref q_ways, .ref q_then, .long f_seed, .ref q_isKept, .ref q_kept])), (q_readNeeds, .inl (cI, 3, .inl u7)), (q_readPeople, .inl (cI, 20, .inl u8)), (q_readQuarrels, .inl (cI, 25, .inl u9)), (q_needs, .inl (cI, 3, .inl f_needs)), (q_persons, .inl (cI, 20, .inl f_persons)), (q_quarrels, .inl (cI, 25, .inl f_quarrels)), (q_text, .inl (cI, 64, .inl f_text)), (q_now, .inl (cI, 194, .inl f_now)), (q_isKept, .inl (cZ, 2, .inl f_isKept))]) hx hb hts iX8 tyX8_ok nmX8 hown hK hP hD hS 0 rfl rfl 11 (by decide) k114 rfl rfl rfl rfl rfl (Nat.le_of_ble_eq_true rfl) dX8_house_33 rfl (fun H locs hP hD hS => ?_)
    refine lv_iconst (v := (0 : Int32)) hx hb dX8_house_36 (by decide) ?_
    refine lv_istore_n (lv' := [(1, .int (0 : Int32)), (0, .ref q)]) hx hb dX8_house_37 rfl hl (by decide) rfl (fun ls hl => ?_)
    obtain ⟨w32, hlp, hf⟩ := gg_c1_x hf
    obtain ⟨nlp, hlp⟩ := gg_lp_x hlp
    refine L38 _ _ _ _ _ _ _ _ _ _ _ _ _ _ _ _ _ (fun H locs ls hP hD hS hl => ?_) nlp _ _ hlp _ _ _ hP hD hS (lv_sub hl [1, 0] rfl)
    refine lv_iconst (v := (0 : Int32)) hx hb dX8_house_61 (by decide) ?_
    refine lv_istore_n (lv' := [(1, .int (0 : Int32)), (0, .ref q)]) hx hb dX8_house_62 rfl hl (by decide) rfl (fun ls hl => ?_)
    obtain ⟨w55, hlp, hf⟩ := gg_c1_x hf
    obtain ⟨nlp, hlp⟩ := gg_lp_x hlp
    refine L63 _ _ _ _ _ _ _ _ _ _ _ _ _ _ _ _ _ (fun H locs ls hP hD hS hl => ?_) nlp _ _ hlp _ _ _ hP hD hS (lv_sub hl [1, 0] rfl)
    refine lv_iconst (v := (0 : Int32)) hx hb dX8_house_87 (by decide) ?_
    refine lv_istore_n (lv' := [(1, .int (0 : Int32)), (0, .ref q)]) hx hb dX8_house_88 rfl hl (by decide) rfl (fun ls hl => ?_)
    obtain ⟨w78, hlp, hf⟩ := gg_c1_x hf
    obtain ⟨nlp, hlp⟩ := gg_lp_x hlp
    refine L89 _ _ _ _ _ _ _ _ _ _ _ _ _ _ _ _ _ (fun H locs ls hP hD hS hl => ?_) nlp _ _ hlp _ _ _ hP hD hS (lv_sub hl [1, 0] rfl)
    refine lv_iconst (v := (0 : Int32)) hx hb dX8_house_113 (by decide) ?_
    refine lv_istore_n (lv' := [(1, .int (0 : Int32)), (0, .ref q)]) hx hb dX8_house_114 rfl hl (by decide) rfl (fun ls hl => ?_)
    obtain ⟨w100, hlp, hf⟩ := gg_c1_x hf
    obtain ⟨nlp, hlp⟩ := gg_lp_x hlp
    refine L115 _ _ _ _ _ _ _ _ _ _ _ _ _ _ _ _ _ (fun H locs ls hP hD hS hl => ?_) nlp _ _ hlp _ _ _ hP hD hS (lv_sub hl [1, 0] rfl)
    refine lv_aload_n hx hb dX8_house_134 rfl (lv_at hl 0 rfl) ?_
    refine lv_iconst (v := (0 : Int32)) hx hb dX8_house_135 (by decide) ?_
    refine gg_put (ws' := [(q, .inr (8, [.ref q_readNeeds, .ref q_readPeople, .ref q_readQuarrels, .int u2, .int u3, .int u4, .ref q_needs, .ref q_persons, .ref q_quarrels, .int u2, .int u3, .int u4, .ref q_text, .int f_length, .int u5, .int u6, .ref q_now, .int (0 : Int32), .int f_next, .ref q_row, .ref q_least, .ref q_told, .ref q_ways, .ref q_then, .long f_seed, .ref q_isKept, .ref q_kept])), (q_readNeeds, .inl (cI, 3, .inl u7)), (q_readPeople, .inl (cI, 20, .inl u8)), (q_readQuarrels, .inl (cI, 25, .inl u9)), (q_needs, .inl (cI, 3, .inl w32)), (q_persons, .inl (cI, 20, .inl w55)), (q_quarrels, .inl (cI, 25, .inl w78)), (q_text, .inl (cI, 64, .inl f_text)), (q_now, .inl (cI, 194, .inl w100)), (q_isKept, .inl (cZ, 2, .inl f_isKept))]) hx hb hts iX8 tyX8_ok nmX8 hown hK hP hD hS 0 rfl rfl 17 (by decide) k117 rfl rfl rfl rfl rfl (Nat.le_of_ble_eq_true rfl) dX8_house_136 rfl (fun H locs hP hD hS => ?_)
    refine lv_aload_n hx hb dX8_house_139 rfl (lv_at hl 0 rfl) ?_
    refine gg_get hx hb hts iX8 hown hK hP 0 rfl rfl 25 (by decide) k50 rfl rfl dX8_house_140 ?_
    refine lv_iconst (v := (0 : Int32)) hx hb dX8_house_143 (by decide) ?_
    refine lv_iconst (v := (0 : Int32)) hx hb dX8_house_144 (by decide) ?_
    refine gg_zast (ws' := fun g101 => [(q, .inr (8, [.ref q_readNeeds, .ref q_readPeople, .ref q_readQuarrels, .int u2, .int u3, .int u4, .ref q_needs, .ref q_persons, .ref q_quarrels, .int u2, .int u3, .int u4, .ref q_text, .int f_length, .int u5, .int u6, .ref q_now, .int (0 : Int32), .int f_next, .ref q_row, .ref q_least, .ref q_told, .ref q_ways, .ref q_then, .long f_seed, .ref q_isKept, .ref q_kept])), (q_readNeeds, .inl (cI, 3, .inl u7)), (q_readPeople, .inl (cI, 20, .inl u8)), (q_readQuarrels, .inl (cI, 25, .inl u9)), (q_needs, .inl (cI, 3, .inl w32)), (q_persons, .inl (cI, 20, .inl w55)), (q_quarrels, .inl (cI, 25, .inl w78)), (q_text, .inl (cI, 64, .inl f_text)), (q_now, .inl (cI, 194, .inl w100)), (q_isKept, .inl (cZ, 2, .inl g101))]) hx hb hK hP hD hS 9 2 rfl rfl (by decide) dX8_house_145 (fun _ => rfl) hf (fun g101 H locs hP hD hS hf => ?_)
    refine lv_aload_n hx hb dX8_house_146 rfl (lv_at hl 0 rfl) ?_
    refine gg_get hx hb hts iX8 hown hK hP 0 rfl rfl 25 (by decide) k50 rfl rfl dX8_house_147 ?_
    refine lv_iconst (v := (1 : Int32)) hx hb dX8_house_150 (by decide) ?_
    refine lv_iconst (v := (0 : Int32)) hx hb dX8_house_151 (by decide) ?_
    refine gg_zast (ws' := fun g102 => [(q, .inr (8, [.ref q_readNeeds, .ref q_readPeople, .ref q_readQuarrels, .int u2, .int u3, .int u4, .ref q_needs, .ref q_persons, .ref q_quarrels, .int u2, .int u3, .int u4, .ref q_text, .int f_length, .int u5, .int u6, .ref q_now, .int (0 : Int32), .int f_next, .ref q_row, .ref q_least, .ref q_told, .ref q_ways, .ref q_then, .long f_seed, .ref q_isKept, .ref q_kept])), (q_readNeeds, .inl (cI, 3, .inl u7)), (q_readPeople, .inl (cI, 20, .inl u8)), (q_readQuarrels, .inl (cI, 25, .inl u9)), (q_needs, .inl (cI, 3, .inl w32)), (q_persons, .inl (cI, 20, .inl w55)), (q_quarrels, .inl (cI, 25, .inl w78)), (q_text, .inl (cI, 64, .inl f_text)), (q_now, .inl (cI, 194, .inl w100)), (q_isKept, .inl (cZ, 2, .inl g102))]) hx hb hK hP hD hS 9 2 rfl rfl (by decide) dX8_house_152 (fun _ => rfl) hf (fun g102 H locs hP hD hS hf => ?_)
    refine lv_bipush (v := (10 : Int32)) hx hb dX8_house_153 (by decide) ?_
    refine lv_aload_n hx hb dX8_house_155 rfl (lv_at hl 0 rfl) ?_
    refine gg_get hx hb hts iX8 hown hK hP 0 rfl rfl 9 (by decide) k108 rfl rfl dX8_house_156 ?_
    refine lv_imul hx hb dX8_house_159 ?_
    refine lv_aload_n hx hb dX8_house_160 rfl (lv_at hl 0 rfl) ?_
    refine gg_get hx hb hts iX8 hown hK hP 0 rfl rfl 10 (by decide) k111 rfl rfl dX8_house_161 ?_
    refine lv_iadd hx hb dX8_house_164 ?_
    have he0 := Option.some.inj hf
    clear hf
    obtain ⟨h0, he1⟩ := Prod.mk.inj he0
    clear he0
    subst h0
    obtain ⟨h0, he2⟩ := Prod.mk.inj he1
    clear he1
    subst h0
    obtain ⟨h0, he3⟩ := Prod.mk.inj he2
    clear he2
    subst h0
    obtain ⟨h0, he4⟩ := Prod.mk.inj he3
    clear he3
    subst h0
    obtain ⟨h0, he5⟩ := Prod.mk.inj he4
    clear he4
    subst h0
    obtain ⟨h0, he6⟩ := Prod.mk.inj he5
    clear he5
    subst h0
    obtain ⟨h0, he7⟩ := Prod.mk.inj he6
    clear he6
    subst h0
    obtain ⟨h0, he8⟩ := Prod.mk.inj he7
    clear he7
    subst h0
    obtain ⟨h0, he9⟩ := Prod.mk.inj he8
    clear he8
    subst h0
    obtain ⟨h0, he10⟩ := Prod.mk.inj he9
    clear he9
    subst h0
    obtain ⟨h0, he11⟩ := Prod.mk.inj he10
    clear he10
    subst h0
    obtain ⟨h0, he12⟩ := Prod.mk.inj he11
    clear he11
    subst h0
    obtain ⟨h0, he13⟩ := Prod.mk.inj he12
    clear he12
    subst h0
    obtain ⟨h0, he14⟩ := Prod.mk.inj he13
    clear he13
    subst h0
    obtain ⟨h0, he15⟩ := Prod.mk.inj he14
    clear he14
    subst h0
    obtain ⟨h0, he16⟩ := Prod.mk.inj he15
    clear he15
    subst h0
    obtain ⟨h0, he17⟩ := Prod.mk.inj he16
    clear he16
    subst h0
    subst he17
    rw [hQ]
    exact gg_iret hx hb hr hlocks hS (Nat.le_of_ble_eq_true rfl) (Nat.le_of_ble_eq_true rfl) dX8_house_165 () rfl hP hD
  · replace hf := gg_neg hf hc
    refine lv_bipush (v := (-3 : Int32)) hx hb dX8_house_9 (by decide) ?_
    have he0 := Option.some.inj hf
    clear hf
    obtain ⟨h0, he1⟩ := Prod.mk.inj he0
    clear he0
    subst h0
    obtain ⟨h0, he2⟩ := Prod.mk.inj he1
    clear he1
    subst h0
    obtain ⟨h0, he3⟩ := Prod.mk.inj he2
    clear he2
    subst h0
    obtain ⟨h0, he4⟩ := Prod.mk.inj he3
    clear he3
    subst h0
    obtain ⟨h0, he5⟩ := Prod.mk.inj he4
    clear he4
    subst h0
    obtain ⟨h0, he6⟩ := Prod.mk.inj he5
    clear he5
    subst h0
    obtain ⟨h0, he7⟩ := Prod.mk.inj he6
    clear he6
    subst h0
    obtain ⟨h0, he8⟩ := Prod.mk.inj he7
    clear he7
    subst h0
    obtain ⟨h0, he9⟩ := Prod.mk.inj he8
    clear he8
    subst h0
    obtain ⟨h0, he10⟩ := Prod.mk.inj he9
    clear he9
    subst h0
    obtain ⟨h0, he11⟩ := Prod.mk.inj he10
    clear he10
    subst h0
    obtain ⟨h0, he12⟩ := Prod.mk.inj he11
    clear he11
    subst h0
    obtain ⟨h0, he13⟩ := Prod.mk.inj he12
    clear he12
    subst h0
    obtain ⟨h0, he14⟩ := Prod.mk.inj he13
    clear he13
    subst h0
    obtain ⟨h0, he15⟩ := Prod.mk.inj he14
    clear he14
    subst h0
    obtain ⟨h0, he16⟩ := Prod.mk.inj he15
    clear he15
    subst h0
    obtain ⟨h0, he17⟩ := Prod.mk.inj he16
    clear he16
    subst h0
    subst he17
    rw [hQ]
    exact gg_iret hx hb hr hlocks hS (Nat.le_of_ble_eq_true rfl) (Nat.le_of_ble_eq_true rfl) dX8_house_11 () rfl hP hD
set_option maxHeartbeats 4000000 in
set_option maxRecDepth 100000 in
theorem mX8_isRoom (l : Launch) (D : va_G) (cI cJ cZ cR : ClassId) (q q_readNeeds q_readPeople q_readQuarrels q_needs q_persons q_quarrels q_text q_now q_row q_least q_told q_ways q_then q_isKept q_kept : Nat) (f_readR : Int32) (f_readP : Int32) (f_readQ : Int32) (f_rooms : Int32) (f_people : Int32) (f_pairs : Int32) (f_length : Int32) (f_at : Int32) (f_faultAt : Int32) (f_acts : Int32) (f_next : Int32) (f_seed : Int64) (x1 : Int32) (rr : Int32) (hf : pX8_isRoom f_rooms x1 = some rr) : gg_M gN vwCl (gg_T cI cJ cZ cR) l D yX8_isRoom wsX8_isRoom ({ frames := 1, cells := 0, slots := 0, locals := 25 } : Room) [.ref q, .int x1] [(q, .inr (8, [.ref q_readNeeds, .ref q_readPeople, .ref q_readQuarrels, .int f_readR, .int f_readP, .int f_readQ, .ref q_needs, .ref q_persons, .ref q_quarrels, .int f_rooms, .int f_people, .int f_pairs, .ref q_text, .int f_length, .int f_at, .int f_faultAt, .ref q_now, .int f_acts, .int f_next, .ref q_row, .ref q_least, .ref q_told, .ref q_ways, .ref q_then, .long f_seed, .ref q_isKept, .ref q_kept]))] (fun _ : Unit => some (.int rr)) (fun _ => [(q, .inr (8, [.ref q_readNeeds, .ref q_readPeople, .ref q_readQuarrels, .int f_readR, .int f_readP, .int f_readQ, .ref q_needs, .ref q_persons, .ref q_quarrels, .int f_rooms, .int f_people, .int f_pairs, .ref q_text, .int f_length, .int f_at, .int f_faultAt, .ref q_now, .int f_acts, .int f_next, .ref q_row, .ref q_least, .ref q_told, .ref q_ways, .ref q_then, .long f_seed, .ref q_isKept, .ref q_kept]))]) := by
  refine gg_M.of (cc := cX8_isRoom) (maxL := 2) (rt := (some .boolean)) (by decide) rfl (Nat.le_of_ble_eq_true rfl) ?_
  intro p e s m below meth c A args Q hQ hx hb hr hml hts hown hlocks hin hA hS hP hK hD ls hl
  replace hown : s.vm.findClass RX8 = some m.cls := hown
  replace hl : lv_has ls 2 [(0, .ref q), (1, .int x1)] := hl
  have k108 := (hts (.fieldLink RX8 108 "AbsentCarpetsModel" "rooms" "I") (List.mem_of_getElem? (i := 1) rfl))
  have iX8 : ∀ w ∈ wsX80, w ∈ wsX8_isRoom := fun _ h => List.mem_cons_of_mem _ (List.mem_append_right _ (h))
  unfold pX8_isRoom at hf
  refine lv_iload_n hx hb dX8_isRoom_0 rfl (lv_at hl 1 rfl) ?_
  refine lv_i2l hx hb dX8_isRoom_1 rfl ?_
  refine lv_lconst (v := (0 : Int64)) hx hb dX8_isRoom_2 (by decide) ?_
  refine lv_aload_n hx hb dX8_isRoom_3 rfl (lv_at hl 0 rfl) ?_
  refine gg_get hx hb hts iX8 hown hK hP 0 rfl rfl 9 (by decide) k108 rfl rfl dX8_isRoom_4 ?_
  refine lv_iconst (v := (1 : Int32)) hx hb dX8_isRoom_7 (by decide) ?_
  refine lv_isub hx hb dX8_isRoom_8 ?_
  refine lv_i2l hx hb dX8_isRoom_9 rfl ?_
  obtain ⟨r1, hu, hf⟩ := gg_c1_x hf
  refine gg_callS (wr := [(q, .inr (8, [.ref q_readNeeds, .ref q_readPeople, .ref q_readQuarrels, .int f_readR, .int f_readP, .int f_readQ, .ref q_needs, .ref q_persons, .ref q_quarrels, .int f_rooms, .int f_people, .int f_pairs, .ref q_text, .int f_length, .int f_at, .int f_faultAt, .ref q_now, .int f_acts, .int f_next, .ref q_row, .ref q_least, .ref q_told, .ref q_ways, .ref q_then, .long f_seed, .ref q_isKept, .ref q_kept]))]) (w2 := fun _ => [(q, .inr (8, [.ref q_readNeeds, .ref q_readPeople, .ref q_readQuarrels, .int f_readR, .int f_readP, .int f_readQ, .ref q_needs, .ref q_persons, .ref q_quarrels, .int f_rooms, .int f_people, .int f_pairs, .ref q_text, .int f_length, .int f_at, .int f_faultAt, .ref q_now, .int f_acts, .int f_next, .ref q_row, .ref q_least, .ref q_told, .ref q_ways, .ref q_then, .long f_seed, .ref q_isKept, .ref q_kept]))]) ⟨hx, hb, hml, hown, hts⟩ (mX8_in l D cI cJ cZ cR   _ _ _ r1 hu) (va_cwS 3 hts gX8_isRoom_X8_in rfl rfl rfl (by decide +kernel) ⟨Nat.le_of_ble_eq_true rfl, Nat.le_of_ble_eq_true rfl⟩) hK hP hD hS hA rfl hl.1 rfl (Nat.le_of_ble_eq_true rfl) dX8_isRoom_10 ⟨Nat.le_of_ble_eq_true rfl, Nat.le_of_ble_eq_true rfl⟩ [] [0] rfl rfl rfl rfl rfl [0] rfl (fun _ => rfl) (fun _ H locs hP hD hS => ?_)
  refine gg_st_i ?_
  obtain ⟨hz, hf⟩ := gg_bool_x hf
  cases hf
  rw [hQ]
  exact gg_zret hx hb hr hlocks hS (Nat.le_of_ble_eq_true rfl) (Nat.le_of_ble_eq_true rfl) dX8_isRoom_13 hz () rfl hP hD
set_option maxHeartbeats 4000000 in
set_option maxRecDepth 100000 in
theorem mX8_isPerson (l : Launch) (D : va_G) (cI cJ cZ cR : ClassId) (q q_readNeeds q_readPeople q_readQuarrels q_needs q_persons q_quarrels q_text q_now q_row q_least q_told q_ways q_then q_isKept q_kept : Nat) (f_readR : Int32) (f_readP : Int32) (f_readQ : Int32) (f_rooms : Int32) (f_people : Int32) (f_pairs : Int32) (f_length : Int32) (f_at : Int32) (f_faultAt : Int32) (f_acts : Int32) (f_next : Int32) (f_seed : Int64) (x1 : Int32) (rr : Int32) (hf : pX8_isPerson f_people x1 = some rr) : gg_M gN vwCl (gg_T cI cJ cZ cR) l D yX8_isPerson wsX8_isPerson ({ frames := 1, cells := 0, slots := 0, locals := 25 } : Room) [.ref q, .int x1] [(q, .inr (8, [.ref q_readNeeds, .ref q_readPeople, .ref q_readQuarrels, .int f_readR, .int f_readP, .int f_readQ, .ref q_needs, .ref q_persons, .ref q_quarrels, .int f_rooms, .int f_people, .int f_pairs, .ref q_text, .int f_length, .int f_at, .int f_faultAt, .ref q_now, .int f_acts, .int f_next, .ref q_row, .ref q_least, .ref q_told, .ref q_ways, .ref q_then, .long f_seed, .ref q_isKept, .ref q_kept]))] (fun _ : Unit => some (.int rr)) (fun _ => [(q, .inr (8, [.ref q_readNeeds, .ref q_readPeople, .ref q_readQuarrels, .int f_readR, .int f_readP, .int f_readQ, .ref q_needs, .ref q_persons, .ref q_quarrels, .int f_rooms, .int f_people, .int f_pairs, .ref q_text, .int f_length, .int f_at, .int f_faultAt, .ref q_now, .int f_acts, .int f_next, .ref q_row, .ref q_least, .ref q_told, .ref q_ways, .ref q_then, .long f_seed, .ref q_isKept, .ref q_kept]))]) := by
  refine gg_M.of (cc := cX8_isPerson) (maxL := 2) (rt := (some .boolean)) (by decide) rfl (Nat.le_of_ble_eq_true rfl) ?_
  intro p e s m below meth c A args Q hQ hx hb hr hml hts hown hlocks hin hA hS hP hK hD ls hl
  replace hown : s.vm.findClass RX8 = some m.cls := hown
  replace hl : lv_has ls 2 [(0, .ref q), (1, .int x1)] := hl
  have k111 := (hts (.fieldLink RX8 111 "AbsentCarpetsModel" "people" "I") (List.mem_of_getElem? (i := 1) rfl))
  have iX8 : ∀ w ∈ wsX80, w ∈ wsX8_isPerson := fun _ h => List.mem_cons_of_mem _ (List.mem_append_right _ (h))
  unfold pX8_isPerson at hf
  refine lv_iload_n hx hb dX8_isPerson_0 rfl (lv_at hl 1 rfl) ?_
  refine lv_i2l hx hb dX8_isPerson_1 rfl ?_
  refine lv_lconst (v := (0 : Int64)) hx hb dX8_isPerson_2 (by decide) ?_
  refine lv_aload_n hx hb dX8_isPerson_3 rfl (lv_at hl 0 rfl) ?_
  refine gg_get hx hb hts iX8 hown hK hP 0 rfl rfl 10 (by decide) k111 rfl rfl dX8_isPerson_4 ?_
  refine lv_iconst (v := (1 : Int32)) hx hb dX8_isPerson_7 (by decide) ?_
  refine lv_isub hx hb dX8_isPerson_8 ?_
  refine lv_i2l hx hb dX8_isPerson_9 rfl ?_
  obtain ⟨r1, hu, hf⟩ := gg_c1_x hf
  refine gg_callS (wr := [(q, .inr (8, [.ref q_readNeeds, .ref q_readPeople, .ref q_readQuarrels, .int f_readR, .int f_readP, .int f_readQ, .ref q_needs, .ref q_persons, .ref q_quarrels, .int f_rooms, .int f_people, .int f_pairs, .ref q_text, .int f_length, .int f_at, .int f_faultAt, .ref q_now, .int f_acts, .int f_next, .ref q_row, .ref q_least, .ref q_told, .ref q_ways, .ref q_then, .long f_seed, .ref q_isKept, .ref q_kept]))]) (w2 := fun _ => [(q, .inr (8, [.ref q_readNeeds, .ref q_readPeople, .ref q_readQuarrels, .int f_readR, .int f_readP, .int f_readQ, .ref q_needs, .ref q_persons, .ref q_quarrels, .int f_rooms, .int f_people, .int f_pairs, .ref q_text, .int f_length, .int f_at, .int f_faultAt, .ref q_now, .int f_acts, .int f_next, .ref q_row, .ref q_least, .ref q_told, .ref q_ways, .ref q_then, .long f_seed, .ref q_isKept, .ref q_kept]))]) ⟨hx, hb, hml, hown, hts⟩ (mX8_in l D cI cJ cZ cR   _ _ _ r1 hu) (va_cwS 3 hts gX8_isPerson_X8_in rfl rfl rfl (by decide +kernel) ⟨Nat.le_of_ble_eq_true rfl, Nat.le_of_ble_eq_true rfl⟩) hK hP hD hS hA rfl hl.1 rfl (Nat.le_of_ble_eq_true rfl) dX8_isPerson_10 ⟨Nat.le_of_ble_eq_true rfl, Nat.le_of_ble_eq_true rfl⟩ [] [0] rfl rfl rfl rfl rfl [0] rfl (fun _ => rfl) (fun _ H locs hP hD hS => ?_)
  refine gg_st_i ?_
  obtain ⟨hz, hf⟩ := gg_bool_x hf
  cases hf
  rw [hQ]
  exact gg_zret hx hb hr hlocks hS (Nat.le_of_ble_eq_true rfl) (Nat.le_of_ble_eq_true rfl) dX8_isPerson_13 hz () rfl hP hD
set_option maxHeartbeats 4000000 in
set_option maxRecDepth 100000 in
theorem mX8_isDone (l : Launch) (D : va_G) (cI cJ cZ cR : ClassId) (q q_needs q_now q_readNeeds q_readPeople q_readQuarrels q_persons q_quarrels q_text q_row q_least q_told q_ways q_then q_isKept q_kept : Nat) (f_readR : Int32) (f_readP : Int32) (f_readQ : Int32) (f_rooms : Int32) (f_people : Int32) (f_pairs : Int32) (f_length : Int32) (f_at : Int32) (f_faultAt : Int32) (f_acts : Int32) (f_next : Int32) (f_seed : Int64) (f_needs : (Nat → Int32)) (f_now : (Nat → Int32)) (x1 : Int32) (x2 : Int32) (rr : Int32) (hf : pX8_isDone f_needs f_now x1 x2 = some rr) : gg_M gN vwCl (gg_T cI cJ cZ cR) l D yX8_isDone wsX8_isDone ({ frames := 0, cells := 0, slots := 0, locals := 0 } : Room) [.ref q, .int x1, .int x2] [(q, .inr (8, [.ref q_readNeeds, .ref q_readPeople, .ref q_readQuarrels, .int f_readR, .int f_readP, .int f_readQ, .ref q_needs, .ref q_persons, .ref q_quarrels, .int f_rooms, .int f_people, .int f_pairs, .ref q_text, .int f_length, .int f_at, .int f_faultAt, .ref q_now, .int f_acts, .int f_next, .ref q_row, .ref q_least, .ref q_told, .ref q_ways, .ref q_then, .long f_seed, .ref q_isKept, .ref q_kept])), (q_needs, .inl (cI, 3, .inl f_needs)), (q_now, .inl (cI, 194, .inl f_now))] (fun _ : Unit => some (.int rr)) (fun _ => [(q, .inr (8, [.ref q_readNeeds, .ref q_readPeople, .ref q_readQuarrels, .int f_readR, .int f_readP, .int f_readQ, .ref q_needs, .ref q_persons, .ref q_quarrels, .int f_rooms, .int f_people, .int f_pairs, .ref q_text, .int f_length, .int f_at, .int f_faultAt, .ref q_now, .int f_acts, .int f_next, .ref q_row, .ref q_least, .ref q_told, .ref q_ways, .ref q_then, .long f_seed, .ref q_isKept, .ref q_kept])), (q_needs, .inl (cI, 3, .inl f_needs)), (q_now, .inl (cI, 194, .inl f_now))]) := by
  refine gg_M.of (cc := cX8_isDone) (maxL := 3) (rt := (some .boolean)) (by decide) rfl (Nat.le_of_ble_eq_true rfl) ?_
  intro p e s m below meth c A args Q hQ hx hb hr hml hts hown hlocks hin hA hS hP hK hD ls hl
  replace hown : s.vm.findClass RX8 = some m.cls := hown
  replace hl : lv_has ls 3 [(0, .ref q), (1, .int x1), (2, .int x2)] := hl
  have k31 := (hts (.fieldLink RX8 31 "AbsentCarpetsModel" "now" "[I") (List.mem_of_getElem? (i := 1) rfl))
  have k19 := (hts (.fieldLink RX8 19 "AbsentCarpetsModel" "needs" "[I") (List.mem_of_getElem? (i := 2) rfl))
  have iX8 : ∀ w ∈ wsX80, w ∈ wsX8_isDone := fun _ h => List.mem_cons_of_mem _ (List.mem_append_right _ (h))
  unfold pX8_isDone at hf
  refine lv_aload_n hx hb dX8_isDone_0 rfl (lv_at hl 0 rfl) ?_
  refine gg_get hx hb hts iX8 hown hK hP 0 rfl rfl 16 (by decide) k31 rfl rfl dX8_isDone_1 ?_
  refine lv_bipush (v := (97 : Int32)) hx hb dX8_isDone_4 (by decide) ?_
  refine lv_iload_n hx hb dX8_isDone_6 rfl (lv_at hl 1 rfl) ?_
  refine lv_imul hx hb dX8_isDone_7 ?_
  refine lv_bipush (v := (90 : Int32)) hx hb dX8_isDone_8 (by decide) ?_
  refine lv_iadd hx hb dX8_isDone_10 ?_
  refine lv_iload_n hx hb dX8_isDone_11 rfl (lv_at hl 2 rfl) ?_
  refine lv_iadd hx hb dX8_isDone_12 ?_
  refine gg_iald hx hb hK hP 2 0 rfl rfl dX8_isDone_13 hf (fun hf => ?_)
  refine lv_aload_n hx hb dX8_isDone_14 rfl (lv_at hl 0 rfl) ?_
  refine gg_get hx hb hts iX8 hown hK hP 0 rfl rfl 6 (by decide) k19 rfl rfl dX8_isDone_15 ?_
  refine lv_iload_n hx hb dX8_isDone_18 rfl (lv_at hl 2 rfl) ?_
  refine gg_iald hx hb hK hP 1 0 rfl rfl dX8_isDone_19 hf (fun hf => ?_)
  refine lv_icmp_ne (tgt := 27) hx hb dX8_isDone_20 (by decide) (fun hc => ?_) (fun hc => ?_)
  · replace hf := gg_neg hf hc
    refine lv_iconst (v := (0 : Int32)) hx hb dX8_isDone_27 (by decide) ?_
    obtain ⟨hz, hf⟩ := gg_bool_x hf
    cases hf
    rw [hQ]
    exact gg_zret hx hb hr hlocks hS (Nat.le_of_ble_eq_true rfl) (Nat.le_of_ble_eq_true rfl) dX8_isDone_28 hz () rfl hP hD
  · replace hf := gg_pos hf hc
    refine lv_iconst (v := (1 : Int32)) hx hb dX8_isDone_23 (by decide) ?_
    refine lv_goto (tgt := 28) hx hb dX8_isDone_24 (by decide) ?_
    obtain ⟨hz, hf⟩ := gg_bool_x hf
    cases hf
    rw [hQ]
    exact gg_zret hx hb hr hlocks hS (Nat.le_of_ble_eq_true rfl) (Nat.le_of_ble_eq_true rfl) dX8_isDone_28 hz () rfl hP hD
set_option maxHeartbeats 4000000 in
set_option maxRecDepth 100000 in
theorem mX8_ofRoom (l : Launch) (D : va_G) (cI cJ cZ cR : ClassId) (q q_persons q_readNeeds q_readPeople q_readQuarrels q_needs q_quarrels q_text q_now q_row q_least q_told q_ways q_then q_isKept q_kept : Nat) (f_readR : Int32) (f_readP : Int32) (f_readQ : Int32) (f_rooms : Int32) (f_people : Int32) (f_pairs : Int32) (f_length : Int32) (f_at : Int32) (f_faultAt : Int32) (f_acts : Int32) (f_next : Int32) (f_seed : Int64) (f_persons : (Nat → Int32)) (x1 : Int32) (rr : Int32) (hf : pX8_ofRoom f_people f_persons x1 = some rr) : gg_M gN vwCl (gg_T cI cJ cZ cR) l D yX8_ofRoom wsX8_ofRoom ({ frames := 0, cells := 0, slots := 0, locals := 0 } : Room) [.ref q, .int x1] [(q, .inr (8, [.ref q_readNeeds, .ref q_readPeople, .ref q_readQuarrels, .int f_readR, .int f_readP, .int f_readQ, .ref q_needs, .ref q_persons, .ref q_quarrels, .int f_rooms, .int f_people, .int f_pairs, .ref q_text, .int f_length, .int f_at, .int f_faultAt, .ref q_now, .int f_acts, .int f_next, .ref q_row, .ref q_least, .ref q_told, .ref q_ways, .ref q_then, .long f_seed, .ref q_isKept, .ref q_kept])), (q_persons, .inl (cI, 20, .inl f_persons))] (fun _ : Unit => some (.int rr)) (fun _ => [(q, .inr (8, [.ref q_readNeeds, .ref q_readPeople, .ref q_readQuarrels, .int f_readR, .int f_readP, .int f_readQ, .ref q_needs, .ref q_persons, .ref q_quarrels, .int f_rooms, .int f_people, .int f_pairs, .ref q_text, .int f_length, .int f_at, .int f_faultAt, .ref q_now, .int f_acts, .int f_next, .ref q_row, .ref q_least, .ref q_told, .ref q_ways, .ref q_then, .long f_seed, .ref q_isKept, .ref q_kept])), (q_persons, .inl (cI, 20, .inl f_persons))]) := by
  refine gg_M.of (cc := cX8_ofRoom) (maxL := 4) (rt := (some .int)) (by decide) rfl (Nat.le_of_ble_eq_true rfl) ?_
  intro p e s m below meth c A args Q hQ hx hb hr hml hts hown hlocks hin hA hS hP hK hD ls hl
  replace hown : s.vm.findClass RX8 = some m.cls := hown
  replace hl : lv_has ls 4 [(0, .ref q), (1, .int x1)] := hl
  have k111 := (hts (.fieldLink RX8 111 "AbsentCarpetsModel" "people" "I") (List.mem_of_getElem? (i := 1) rfl))
  have k22 := (hts (.fieldLink RX8 22 "AbsentCarpetsModel" "persons" "[I") (List.mem_of_getElem? (i := 2) rfl))
  have iX8 : ∀ w ∈ wsX80, w ∈ wsX8_ofRoom := fun _ h => List.mem_cons_of_mem _ (List.mem_append_right _ (h))
  have L4 : ∀ (y1 : Int32) (y4 : Int32), (∀ (H : Heap) (locs : List Loc) (ls : Array Slot), va_P D vwCl [(q, .inr (8, [.ref q_readNeeds, .ref q_readPeople, .ref q_readQuarrels, .int f_readR, .int f_readP, .int f_readQ, .ref q_needs, .ref q_persons, .ref q_quarrels, .int f_rooms, .int f_people, .int f_pairs, .ref q_text, .int f_length, .int f_at, .int f_faultAt, .ref q_now, .int f_acts, .int f_next, .ref q_row, .ref q_least, .ref q_told, .ref q_ways, .ref q_then, .long f_seed, .ref q_isKept, .ref q_kept])), (q_persons, .inl (cI, 20, .inl f_persons))] H → va_D A [(q, .inr (8, [.ref q_readNeeds, .ref q_readPeople, .ref q_readQuarrels, .int f_readR, .int f_readP, .int f_readQ, .ref q_needs, .ref q_persons, .ref q_quarrels, .int f_rooms, .int f_people, .int f_pairs, .ref q_text, .int f_length, .int f_at, .int f_faultAt, .ref q_now, .int f_acts, .int f_next, .ref q_row, .ref q_least, .ref q_told, .ref q_ways, .ref q_then, .long f_seed, .ref q_isKept, .ref q_kept])), (q_persons, .inl (cI, 20, .inl f_persons))] → va_S A s.heap H locs → lv_has ls 4 [(2, .int y4)] → W p l e ({ frames := 0, cells := 0, slots := 0, locals := 0 } : Room) s m args below meth c H locs 0 0 Q (F0 m 40 ls [])) → ∀ (nlp : Nat) (y2 : Int32) (y3 : Int32), gg_lpF (fun (s : (Int32 × Int32)) => pX8_ofRoom_L4 f_people f_persons y1 s.1 s.2) nlp (y2, y3) = some y4 → ∀ (H : Heap) (locs : List Loc) (ls : Array Slot), va_P D vwCl [(q, .inr (8, [.ref q_readNeeds, .ref q_readPeople, .ref q_readQuarrels, .int f_readR, .int f_readP, .int f_readQ, .ref q_needs, .ref q_persons, .ref q_quarrels, .int f_rooms, .int f_people, .int f_pairs, .ref q_text, .int f_length, .int f_at, .int f_faultAt, .ref q_now, .int f_acts, .int f_next, .ref q_row, .ref q_least, .ref q_told, .ref q_ways, .ref q_then, .long f_seed, .ref q_isKept, .ref q_kept])), (q_persons, .inl (cI, 20, .inl f_persons))] H → va_D A [(q, .inr (8, [.ref q_readNeeds, .ref q_readPeople, .ref q_readQuarrels, .int f_readR, .int f_readP, .int f_readQ, .ref q_needs, .ref q_persons, .ref q_quarrels, .int f_rooms, .int f_people, .int f_pairs, .ref q_text, .int f_length, .int f_at, .int f_faultAt, .ref q_now, .int f_acts, .int f_next, .ref q_row, .ref q_least, .ref q_told, .ref q_ways, .ref q_then, .long f_seed, .ref q_isKept, .ref q_kept])), (q_persons, .inl (cI, 20, .inl f_persons))] → va_S A s.heap H locs → lv_has ls 4 [(0, .ref q), (1, .int y1), (2, .int y2), (3, .int y3)] → W p l e ({ frames := 0, cells := 0, slots := 0, locals := 0 } : Room) s m args below meth c H locs 0 0 Q (F0 m 4 ls []) := by
    intro y1 y4 hE nlp
    induction nlp with
    | zero => intro y2 y3 hf; cases hf
    | succ nlp ih =>
      intro y2 y3 hf H locs ls hP hD hS hl
      obtain ⟨zz, hz, hzE, hzN⟩ := gg_lpF_x hf
      replace hf : pX8_ofRoom_L4 f_people f_persons y1 y2 y3 = some zz := hz
      have J32 : ∀ (y6 : Int32) (s7 : Int32) (s8 : Int32) (H : Heap) (locs : List Loc) (ls : Array Slot), pX8_ofRoom_j32 f_people f_persons y1 y6 s7 s8 = some zz → va_P D vwCl [(q, .inr (8, [.ref q_readNeeds, .ref q_readPeople, .ref q_readQuarrels, .int f_readR, .int f_readP, .int f_readQ, .ref q_needs, .ref q_persons, .ref q_quarrels, .int f_rooms, .int f_people, .int f_pairs, .ref q_text, .int f_length, .int f_at, .int f_faultAt, .ref q_now, .int f_acts, .int f_next, .ref q_row, .ref q_least, .ref q_told, .ref q_ways, .ref q_then, .long f_seed, .ref q_isKept, .ref q_kept])), (q_persons, .inl (cI, 20, .inl f_persons))] H → va_D A [(q, .inr (8, [.ref q_readNeeds, .ref q_readPeople, .ref q_readQuarrels, .int f_readR, .int f_readP, .int f_readQ, .ref q_needs, .ref q_persons, .ref q_quarrels, .int f_rooms, .int f_people, .int f_pairs, .ref q_text, .int f_length, .int f_at, .int f_faultAt, .ref q_now, .int f_acts, .int f_next, .ref q_row, .ref q_least, .ref q_told, .ref q_ways, .ref q_then, .long f_seed, .ref q_isKept, .ref q_kept])), (q_persons, .inl (cI, 20, .inl f_persons))] → va_S A s.heap H locs → lv_has ls 4 [(0, .ref q), (1, .int y1), (3, .int y6)] → W p l e ({ frames := 0, cells := 0, slots := 0, locals := 0 } : Room) s m args below meth c H locs 0 0 Q (F0 m 32 ls [.int s8, .int s7]) := by
        intro y6 s7 s8 H locs ls hf hP hD hS hl
        unfold pX8_ofRoom_j32 at hf
        refine lv_ior hx hb dX8_ofRoom_32 ?_
        refine gg_topi hf (fun v9 hf => ?_)
        refine lv_istore_n (lv' := [(2, .int v9), (0, .ref q), (1, .int y1), (3, .int y6)]) hx hb dX8_ofRoom_33 rfl hl (by decide) rfl (fun ls hl => ?_)
        refine gg_iinc (cst := (1 : Int32)) (k := 3) (lv' := fun v10 => [(3, .int v10), (2, .int v9), (0, .ref q), (1, .int y1)]) hx hb dX8_ofRoom_34 hl rfl (by decide) (by decide) (fun _ => rfl) hf (fun v10 ls hl hf => ?_)
        refine lv_goto (tgt := 4) hx hb dX8_ofRoom_37 (by decide) ?_
        exact ih _ _ (hzN _ (Option.some.inj hf).symm) _ _ _ hP hD hS (lv_sub hl [2, 3, 1, 0] rfl)
      unfold pX8_ofRoom_L4 at hf
      refine lv_iload_n hx hb dX8_ofRoom_4 rfl (lv_at hl 3 rfl) ?_
      refine lv_aload_n hx hb dX8_ofRoom_5 rfl (lv_at hl 0 rfl) ?_
      refine gg_get hx hb hts iX8 hown hK hP 0 rfl rfl 10 (by decide) k111 rfl rfl dX8_ofRoom_6 ?_
      refine lv_icmp_ge (tgt := 40) hx hb dX8_ofRoom_9 (by decide) (fun hc => ?_) (fun hc => ?_)
      · replace hf := gg_pos hf hc
        have hq := hzE _ (Option.some.inj hf).symm
        cases hq
        exact hE _ _ _ hP hD hS (lv_sub hl [2] rfl)
      · replace hf := gg_neg hf hc
        refine lv_iload_n hx hb dX8_ofRoom_12 rfl (lv_at hl 2 rfl) ?_
        refine lv_aload_n hx hb dX8_ofRoom_13 rfl (lv_at hl 0 rfl) ?_
        refine gg_get hx hb hts iX8 hown hK hP 0 rfl rfl 7 (by decide) k22 rfl rfl dX8_ofRoom_14 ?_
        refine lv_iconst (v := (4 : Int32)) hx hb dX8_ofRoom_17 (by decide) ?_
        refine lv_iload_n hx hb dX8_ofRoom_18 rfl (lv_at hl 3 rfl) ?_
        refine lv_imul hx hb dX8_ofRoom_19 ?_
        refine gg_iald hx hb hK hP 1 0 rfl rfl dX8_ofRoom_20 hf (fun hf => ?_)
        refine lv_iload_n hx hb dX8_ofRoom_21 rfl (lv_at hl 1 rfl) ?_
        refine lv_icmp_ne (tgt := 31) hx hb dX8_ofRoom_22 (by decide) (fun hc => ?_) (fun hc => ?_)
        · replace hf := gg_neg hf hc
          refine lv_iconst (v := (0 : Int32)) hx hb dX8_ofRoom_31 (by decide) ?_
          exact J32 _ _ _ _ _ _ hf hP hD hS (lv_sub hl [0, 1, 3] rfl)
        · replace hf := gg_pos hf hc
          refine lv_iconst (v := (1 : Int32)) hx hb dX8_ofRoom_25 (by decide) ?_
          refine lv_iload_n hx hb dX8_ofRoom_26 rfl (lv_at hl 3 rfl) ?_
          refine lv_ishl hx hb dX8_ofRoom_27 ?_
          refine lv_goto (tgt := 32) hx hb dX8_ofRoom_28 (by decide) ?_
          exact J32 _ _ _ _ _ _ hf hP hD hS (lv_sub hl [0, 1, 3] rfl)
  unfold pX8_ofRoom at hf
  refine lv_iconst (v := (0 : Int32)) hx hb dX8_ofRoom_0 (by decide) ?_
  refine lv_istore_n (lv' := [(2, .int (0 : Int32)), (0, .ref q), (1, .int x1)]) hx hb dX8_ofRoom_1 rfl hl (by decide) rfl (fun ls hl => ?_)
  refine lv_iconst (v := (0 : Int32)) hx hb dX8_ofRoom_2 (by decide) ?_
  refine lv_istore_n (lv' := [(3, .int (0 : Int32)), (2, .int (0 : Int32)), (0, .ref q), (1, .int x1)]) hx hb dX8_ofRoom_3 rfl hl (by decide) rfl (fun ls hl => ?_)
  obtain ⟨y11, hlp, hf⟩ := gg_c1_x hf
  obtain ⟨nlp, hlp⟩ := gg_lp_x hlp
  refine L4 _ _ (fun H locs ls hP hD hS hl => ?_) nlp _ _ hlp _ _ _ hP hD hS (lv_sub hl [2, 3, 1, 0] rfl)
  refine lv_iload_n hx hb dX8_ofRoom_40 rfl (lv_at hl 0 rfl) ?_
  cases hf
  rw [hQ]
  exact gg_iret hx hb hr hlocks hS (Nat.le_of_ble_eq_true rfl) (Nat.le_of_ble_eq_true rfl) dX8_ofRoom_41 () rfl hP hD
set_option maxHeartbeats 4000000 in
set_option maxRecDepth 100000 in
theorem mX8_redOf (l : Launch) (D : va_G) (cI cJ cZ cR : ClassId) (q q_now q_readNeeds q_readPeople q_readQuarrels q_needs q_persons q_quarrels q_text q_row q_least q_told q_ways q_then q_isKept q_kept : Nat) (f_readR : Int32) (f_readP : Int32) (f_readQ : Int32) (f_rooms : Int32) (f_people : Int32) (f_pairs : Int32) (f_length : Int32) (f_at : Int32) (f_faultAt : Int32) (f_acts : Int32) (f_next : Int32) (f_seed : Int64) (f_now : (Nat → Int32)) (x1 : Int32) (rr : Int32) (hf : pX8_redOf f_now x1 = some rr) : gg_M gN vwCl (gg_T cI cJ cZ cR) l D yX8_redOf wsX8_redOf ({ frames := 0, cells := 0, slots := 0, locals := 0 } : Room) [.ref q, .int x1] [(q, .inr (8, [.ref q_readNeeds, .ref q_readPeople, .ref q_readQuarrels, .int f_readR, .int f_readP, .int f_readQ, .ref q_needs, .ref q_persons, .ref q_quarrels, .int f_rooms, .int f_people, .int f_pairs, .ref q_text, .int f_length, .int f_at, .int f_faultAt, .ref q_now, .int f_acts, .int f_next, .ref q_row, .ref q_least, .ref q_told, .ref q_ways, .ref q_then, .long f_seed, .ref q_isKept, .ref q_kept])), (q_now, .inl (cI, 194, .inl f_now))] (fun _ : Unit => some (.int rr)) (fun _ => [(q, .inr (8, [.ref q_readNeeds, .ref q_readPeople, .ref q_readQuarrels, .int f_readR, .int f_readP, .int f_readQ, .ref q_needs, .ref q_persons, .ref q_quarrels, .int f_rooms, .int f_people, .int f_pairs, .ref q_text, .int f_length, .int f_at, .int f_faultAt, .ref q_now, .int f_acts, .int f_next, .ref q_row, .ref q_least, .ref q_told, .ref q_ways, .ref q_then, .long f_seed, .ref q_isKept, .ref q_kept])), (q_now, .inl (cI, 194, .inl f_now))]) := by
  refine gg_M.of (cc := cX8_redOf) (maxL := 4) (rt := (some .int)) (by decide) rfl (Nat.le_of_ble_eq_true rfl) ?_
  intro p e s m below meth c A args Q hQ hx hb hr hml hts hown hlocks hin hA hS hP hK hD ls hl
  replace hown : s.vm.findClass RX8 = some m.cls := hown
  replace hl : lv_has ls 4 [(0, .ref q), (1, .int x1)] := hl
  have k31 := (hts (.fieldLink RX8 31 "AbsentCarpetsModel" "now" "[I") (List.mem_of_getElem? (i := 1) rfl))
  have iX8 : ∀ w ∈ wsX80, w ∈ wsX8_redOf := fun _ h => List.mem_cons_of_mem _ (List.mem_append_right _ (h))
  have L4 : ∀ (y1 : Int32) (y4 : Int32), (∀ (H : Heap) (locs : List Loc) (ls : Array Slot), va_P D vwCl [(q, .inr (8, [.ref q_readNeeds, .ref q_readPeople, .ref q_readQuarrels, .int f_readR, .int f_readP, .int f_readQ, .ref q_needs, .ref q_persons, .ref q_quarrels, .int f_rooms, .int f_people, .int f_pairs, .ref q_text, .int f_length, .int f_at, .int f_faultAt, .ref q_now, .int f_acts, .int f_next, .ref q_row, .ref q_least, .ref q_told, .ref q_ways, .ref q_then, .long f_seed, .ref q_isKept, .ref q_kept])), (q_now, .inl (cI, 194, .inl f_now))] H → va_D A [(q, .inr (8, [.ref q_readNeeds, .ref q_readPeople, .ref q_readQuarrels, .int f_readR, .int f_readP, .int f_readQ, .ref q_needs, .ref q_persons, .ref q_quarrels, .int f_rooms, .int f_people, .int f_pairs, .ref q_text, .int f_length, .int f_at, .int f_faultAt, .ref q_now, .int f_acts, .int f_next, .ref q_row, .ref q_least, .ref q_told, .ref q_ways, .ref q_then, .long f_seed, .ref q_isKept, .ref q_kept])), (q_now, .inl (cI, 194, .inl f_now))] → va_S A s.heap H locs → lv_has ls 4 [(2, .int y4)] → W p l e ({ frames := 0, cells := 0, slots := 0, locals := 0 } : Room) s m args below meth c H locs 0 0 Q (F0 m 39 ls [])) → ∀ (nlp : Nat) (y2 : Int32) (y3 : Int32), gg_lpF (fun (s : (Int32 × Int32)) => pX8_redOf_L4 f_now y1 s.1 s.2) nlp (y2, y3) = some y4 → ∀ (H : Heap) (locs : List Loc) (ls : Array Slot), va_P D vwCl [(q, .inr (8, [.ref q_readNeeds, .ref q_readPeople, .ref q_readQuarrels, .int f_readR, .int f_readP, .int f_readQ, .ref q_needs, .ref q_persons, .ref q_quarrels, .int f_rooms, .int f_people, .int f_pairs, .ref q_text, .int f_length, .int f_at, .int f_faultAt, .ref q_now, .int f_acts, .int f_next, .ref q_row, .ref q_least, .ref q_told, .ref q_ways, .ref q_then, .long f_seed, .ref q_isKept, .ref q_kept])), (q_now, .inl (cI, 194, .inl f_now))] H → va_D A [(q, .inr (8, [.ref q_readNeeds, .ref q_readPeople, .ref q_readQuarrels, .int f_readR, .int f_readP, .int f_readQ, .ref q_needs, .ref q_persons, .ref q_quarrels, .int f_rooms, .int f_people, .int f_pairs, .ref q_text, .int f_length, .int f_at, .int f_faultAt, .ref q_now, .int f_acts, .int f_next, .ref q_row, .ref q_least, .ref q_told, .ref q_ways, .ref q_then, .long f_seed, .ref q_isKept, .ref q_kept])), (q_now, .inl (cI, 194, .inl f_now))] → va_S A s.heap H locs → lv_has ls 4 [(0, .ref q), (1, .int y1), (2, .int y2), (3, .int y3)] → W p l e ({ frames := 0, cells := 0, slots := 0, locals := 0 } : Room) s m args below meth c H locs 0 0 Q (F0 m 4 ls []) := by
    intro y1 y4 hE nlp
    induction nlp with
    | zero => intro y2 y3 hf; cases hf
    | succ nlp ih =>
      intro y2 y3 hf H locs ls hP hD hS hl
      obtain ⟨zz, hz, hzE, hzN⟩ := gg_lpF_x hf
      replace hf : pX8_redOf_L4 f_now y1 y2 y3 = some zz := hz
      unfold pX8_redOf_L4 at hf
      refine lv_iload_n hx hb dX8_redOf_4 rfl (lv_at hl 3 rfl) ?_
      refine lv_aload_n hx hb dX8_redOf_5 rfl (lv_at hl 0 rfl) ?_
      refine gg_get hx hb hts iX8 hown hK hP 0 rfl rfl 16 (by decide) k31 rfl rfl dX8_redOf_6 ?_
      refine lv_bipush (v := (90 : Int32)) hx hb dX8_redOf_9 (by decide) ?_
      refine lv_iload_n hx hb dX8_redOf_11 rfl (lv_at hl 1 rfl) ?_
      refine lv_iadd hx hb dX8_redOf_12 ?_
      refine gg_iald hx hb hK hP 1 0 rfl rfl dX8_redOf_13 hf (fun hf => ?_)
      refine lv_icmp_ge (tgt := 39) hx hb dX8_redOf_14 (by decide) (fun hc => ?_) (fun hc => ?_)
      · replace hf := gg_pos hf hc
        have hq := hzE _ (Option.some.inj hf).symm
        cases hq
        exact hE _ _ _ hP hD hS (lv_sub hl [2] rfl)
      · replace hf := gg_neg hf hc
        refine lv_iload_n hx hb dX8_redOf_17 rfl (lv_at hl 2 rfl) ?_
        refine lv_aload_n hx hb dX8_redOf_18 rfl (lv_at hl 0 rfl) ?_
        refine gg_get hx hb hts iX8 hown hK hP 0 rfl rfl 16 (by decide) k31 rfl rfl dX8_redOf_19 ?_
        refine lv_bipush (v := (30 : Int32)) hx hb dX8_redOf_22 (by decide) ?_
        refine lv_iload_n hx hb dX8_redOf_24 rfl (lv_at hl 1 rfl) ?_
        refine lv_imul hx hb dX8_redOf_25 ?_
        refine lv_iload_n hx hb dX8_redOf_26 rfl (lv_at hl 3 rfl) ?_
        refine lv_iadd hx hb dX8_redOf_27 ?_
        refine gg_iald hx hb hK hP 1 0 rfl rfl dX8_redOf_28 hf (fun hf => ?_)
        refine lv_iconst (v := (1 : Int32)) hx hb dX8_redOf_29 (by decide) ?_
        refine lv_iand hx hb dX8_redOf_30 ?_
        refine lv_iadd hx hb dX8_redOf_31 ?_
        refine gg_topi hf (fun v7 hf => ?_)
        refine lv_istore_n (lv' := [(2, .int v7), (0, .ref q), (1, .int y1), (3, .int y3)]) hx hb dX8_redOf_32 rfl hl (by decide) rfl (fun ls hl => ?_)
        refine gg_iinc (cst := (1 : Int32)) (k := 3) (lv' := fun v8 => [(3, .int v8), (2, .int v7), (0, .ref q), (1, .int y1)]) hx hb dX8_redOf_33 hl rfl (by decide) (by decide) (fun _ => rfl) hf (fun v8 ls hl hf => ?_)
        refine lv_goto (tgt := 4) hx hb dX8_redOf_36 (by decide) ?_
        exact ih _ _ (hzN _ (Option.some.inj hf).symm) _ _ _ hP hD hS (lv_sub hl [2, 3, 1, 0] rfl)
  unfold pX8_redOf at hf
  refine lv_iconst (v := (0 : Int32)) hx hb dX8_redOf_0 (by decide) ?_
  refine lv_istore_n (lv' := [(2, .int (0 : Int32)), (0, .ref q), (1, .int x1)]) hx hb dX8_redOf_1 rfl hl (by decide) rfl (fun ls hl => ?_)
  refine lv_iconst (v := (0 : Int32)) hx hb dX8_redOf_2 (by decide) ?_
  refine lv_istore_n (lv' := [(3, .int (0 : Int32)), (2, .int (0 : Int32)), (0, .ref q), (1, .int x1)]) hx hb dX8_redOf_3 rfl hl (by decide) rfl (fun ls hl => ?_)
  obtain ⟨y9, hlp, hf⟩ := gg_c1_x hf
  obtain ⟨nlp, hlp⟩ := gg_lp_x hlp
  refine L4 _ _ (fun H locs ls hP hD hS hl => ?_) nlp _ _ hlp _ _ _ hP hD hS (lv_sub hl [2, 3, 1, 0] rfl)
  refine lv_iload_n hx hb dX8_redOf_39 rfl (lv_at hl 0 rfl) ?_
  cases hf
  rw [hQ]
  exact gg_iret hx hb hr hlocks hS (Nat.le_of_ble_eq_true rfl) (Nat.le_of_ble_eq_true rfl) dX8_redOf_40 () rfl hP hD
set_option maxHeartbeats 4000000 in
set_option maxRecDepth 100000 in
theorem mX8_room (l : Launch) (D : va_G) (cI cJ cZ cR : ClassId) (q q_needs q_persons q_now q_readNeeds q_readPeople q_readQuarrels q_quarrels q_text q_row q_least q_told q_ways q_then q_isKept q_kept : Nat) (f_readR : Int32) (f_readP : Int32) (f_readQ : Int32) (f_rooms : Int32) (f_people : Int32) (f_pairs : Int32) (f_length : Int32) (f_at : Int32) (f_faultAt : Int32) (f_acts : Int32) (f_next : Int32) (f_seed : Int64) (f_needs : (Nat → Int32)) (f_persons : (Nat → Int32)) (f_now : (Nat → Int32)) (x1 : Int32) (x2 : Int32) (rr : Int32) (hf : pX8_room f_rooms f_people f_needs f_persons f_now x1 x2 = some rr) : gg_M gN vwCl (gg_T cI cJ cZ cR) l D yX8_room wsX8_room ({ frames := 2, cells := 0, slots := 0, locals := 46 } : Room) [.ref q, .int x1, .int x2] [(q, .inr (8, [.ref q_readNeeds, .ref q_readPeople, .ref q_readQuarrels, .int f_readR, .int f_readP, .int f_readQ, .ref q_needs, .ref q_persons, .ref q_quarrels, .int f_rooms, .int f_people, .int f_pairs, .ref q_text, .int f_length, .int f_at, .int f_faultAt, .ref q_now, .int f_acts, .int f_next, .ref q_row, .ref q_least, .ref q_told, .ref q_ways, .ref q_then, .long f_seed, .ref q_isKept, .ref q_kept])), (q_needs, .inl (cI, 3, .inl f_needs)), (q_persons, .inl (cI, 20, .inl f_persons)), (q_now, .inl (cI, 194, .inl f_now))] (fun _ : Unit => some (.int rr)) (fun _ => [(q, .inr (8, [.ref q_readNeeds, .ref q_readPeople, .ref q_readQuarrels, .int f_readR, .int f_readP, .int f_readQ, .ref q_needs, .ref q_persons, .ref q_quarrels, .int f_rooms, .int f_people, .int f_pairs, .ref q_text, .int f_length, .int f_at, .int f_faultAt, .ref q_now, .int f_acts, .int f_next, .ref q_row, .ref q_least, .ref q_told, .ref q_ways, .ref q_then, .long f_seed, .ref q_isKept, .ref q_kept])), (q_needs, .inl (cI, 3, .inl f_needs)), (q_persons, .inl (cI, 20, .inl f_persons)), (q_now, .inl (cI, 194, .inl f_now))]) := by
  refine gg_M.of (cc := cX8_room) (maxL := 3) (rt := (some .int)) (by decide) rfl (Nat.le_of_ble_eq_true rfl) ?_
  intro p e s m below meth c A args Q hQ hx hb hr hml hts hown hlocks hin hA hS hP hK hD ls hl
  replace hown : s.vm.findClass RX8 = some m.cls := hown
  replace hl : lv_has ls 3 [(0, .ref q), (1, .int x1), (2, .int x2)] := hl
  have k19 := (hts (.fieldLink RX8 19 "AbsentCarpetsModel" "needs" "[I") (List.mem_of_getElem? (i := 1) rfl))
  have k31 := (hts (.fieldLink RX8 31 "AbsentCarpetsModel" "now" "[I") (List.mem_of_getElem? (i := 2) rfl))
  have iX8 : ∀ w ∈ wsX80, w ∈ wsX8_room := fun _ h => List.mem_cons_of_mem _ (List.mem_append_right _ (h))
  unfold pX8_room at hf
  refine lv_aload_n hx hb dX8_room_0 rfl (lv_at hl 0 rfl) ?_
  refine lv_iload_n hx hb dX8_room_1 rfl (lv_at hl 1 rfl) ?_
  obtain ⟨r1, hu, hf⟩ := gg_c1_x hf
  refine gg_callV (wr := [(q_needs, .inl (cI, 3, .inl f_needs)), (q_persons, .inl (cI, 20, .inl f_persons)), (q_now, .inl (cI, 194, .inl f_now))]) (w2 := fun _ => [(q, .inr (8, [.ref q_readNeeds, .ref q_readPeople, .ref q_readQuarrels, .int f_readR, .int f_readP, .int f_readQ, .ref q_needs, .ref q_persons, .ref q_quarrels, .int f_rooms, .int f_people, .int f_pairs, .ref q_text, .int f_length, .int f_at, .int f_faultAt, .ref q_now, .int f_acts, .int f_next, .ref q_row, .ref q_least, .ref q_told, .ref q_ways, .ref q_then, .long f_seed, .ref q_isKept, .ref q_kept])), (q_needs, .inl (cI, 3, .inl f_needs)), (q_persons, .inl (cI, 20, .inl f_persons)), (q_now, .inl (cI, 194, .inl f_now))]) ⟨hx, hb, hml, hown, hts⟩ (mX8_isRoom l D cI cJ cZ cR q q_readNeeds q_readPeople q_readQuarrels q_needs q_persons q_quarrels q_text q_now q_row q_least q_told q_ways q_then q_isKept q_kept f_readR f_readP f_readQ f_rooms f_people f_pairs f_length f_at f_faultAt f_acts f_next f_seed _ r1 hu) (cwV 1 hts gX8_room_X8_isRoom rfl rfl rfl (by decide +kernel) ⟨Nat.le_of_ble_eq_true rfl, Nat.le_of_ble_eq_true rfl⟩) hK hP hD hS hA 0 rfl rfl rfl rfl hl.1 rfl (Nat.le_of_ble_eq_true rfl) dX8_room_2 ⟨Nat.le_of_ble_eq_true rfl, Nat.le_of_ble_eq_true rfl⟩ [0] [1, 2, 3] rfl rfl rfl rfl rfl [3, 0, 1, 2] rfl (fun _ => rfl) (fun _ H locs hP hD hS => ?_)
  refine gg_st_i ?_
  refine lv_if_ne (tgt := 10) hx hb dX8_room_5 (by decide) (fun hc => ?_) (fun hc => ?_)
  · replace hf := gg_neg hf hc
    refine lv_iload_n hx hb dX8_room_10 rfl (lv_at hl 2 rfl) ?_
    by_cases hs0 : x2 = (0 : Int32)
    · replace hf := gg_pos hf hs0
      refine lv_tableIn (tgt := 48) hx hb dX8_room_11 (by rw [hs0]; decide) (by rw [hs0]; decide) (by rw [hs0]; rfl) (by decide) ?_
      refine lv_aload_n hx hb dX8_room_48 rfl (lv_at hl 0 rfl) ?_
      refine gg_get hx hb hts iX8 hown hK hP 0 rfl rfl 6 (by decide) k19 rfl rfl dX8_room_49 ?_
      refine lv_iload_n hx hb dX8_room_52 rfl (lv_at hl 1 rfl) ?_
      refine gg_iald hx hb hK hP 1 0 rfl rfl dX8_room_53 hf (fun hf => ?_)
      cases hf
      rw [hQ]
      exact gg_iret hx hb hr hlocks hS (Nat.le_of_ble_eq_true rfl) (Nat.le_of_ble_eq_true rfl) dX8_room_54 () rfl hP hD
    · replace hf := gg_neg hf hs0
      by_cases hs1 : x2 = (1 : Int32)
      · replace hf := gg_pos hf hs1
        refine lv_tableIn (tgt := 55) hx hb dX8_room_11 (by rw [hs1]; decide) (by rw [hs1]; decide) (by rw [hs1]; rfl) (by decide) ?_
        refine lv_aload_n hx hb dX8_room_55 rfl (lv_at hl 0 rfl) ?_
        refine gg_get hx hb hts iX8 hown hK hP 0 rfl rfl 16 (by decide) k31 rfl rfl dX8_room_56 ?_
        refine lv_bipush (v := (90 : Int32)) hx hb dX8_room_59 (by decide) ?_
        refine lv_iload_n hx hb dX8_room_61 rfl (lv_at hl 1 rfl) ?_
        refine lv_iadd hx hb dX8_room_62 ?_
        refine gg_iald hx hb hK hP 3 0 rfl rfl dX8_room_63 hf (fun hf => ?_)
        cases hf
        rw [hQ]
        exact gg_iret hx hb hr hlocks hS (Nat.le_of_ble_eq_true rfl) (Nat.le_of_ble_eq_true rfl) dX8_room_64 () rfl hP hD
      · replace hf := gg_neg hf hs1
        by_cases hs2 : x2 = (2 : Int32)
        · replace hf := gg_pos hf hs2
          refine lv_tableIn (tgt := 65) hx hb dX8_room_11 (by rw [hs2]; decide) (by rw [hs2]; decide) (by rw [hs2]; rfl) (by decide) ?_
          refine lv_aload_n hx hb dX8_room_65 rfl (lv_at hl 0 rfl) ?_
          refine gg_get hx hb hts iX8 hown hK hP 0 rfl rfl 16 (by decide) k31 rfl rfl dX8_room_66 ?_
          refine lv_bipush (v := (93 : Int32)) hx hb dX8_room_69 (by decide) ?_
          refine lv_iload_n hx hb dX8_room_71 rfl (lv_at hl 1 rfl) ?_
          refine lv_iadd hx hb dX8_room_72 ?_
          refine gg_iald hx hb hK hP 3 0 rfl rfl dX8_room_73 hf (fun hf => ?_)
          cases hf
          rw [hQ]
          exact gg_iret hx hb hr hlocks hS (Nat.le_of_ble_eq_true rfl) (Nat.le_of_ble_eq_true rfl) dX8_room_74 () rfl hP hD
        · replace hf := gg_neg hf hs2
          by_cases hs3 : x2 = (3 : Int32)
          · replace hf := gg_pos hf hs3
            refine lv_tableIn (tgt := 75) hx hb dX8_room_11 (by rw [hs3]; decide) (by rw [hs3]; decide) (by rw [hs3]; rfl) (by decide) ?_
            refine lv_aload_n hx hb dX8_room_75 rfl (lv_at hl 0 rfl) ?_
            refine lv_iconst (v := (0 : Int32)) hx hb dX8_room_76 (by decide) ?_
            refine lv_iload_n hx hb dX8_room_77 rfl (lv_at hl 1 rfl) ?_
            obtain ⟨r5, hu, hf⟩ := gg_c1_x hf
            refine gg_callV (wr := [(q_persons, .inl (cI, 20, .inl f_persons))]) (w2 := fun _ => [(q, .inr (8, [.ref q_readNeeds, .ref q_readPeople, .ref q_readQuarrels, .int f_readR, .int f_readP, .int f_readQ, .ref q_needs, .ref q_persons, .ref q_quarrels, .int f_rooms, .int f_people, .int f_pairs, .ref q_text, .int f_length, .int f_at, .int f_faultAt, .ref q_now, .int f_acts, .int f_next, .ref q_row, .ref q_least, .ref q_told, .ref q_ways, .ref q_then, .long f_seed, .ref q_isKept, .ref q_kept])), (q_needs, .inl (cI, 3, .inl f_needs)), (q_persons, .inl (cI, 20, .inl f_persons)), (q_now, .inl (cI, 194, .inl f_now))]) ⟨hx, hb, hml, hown, hts⟩ (mX8_isDone l D cI cJ cZ cR q q_needs q_now q_readNeeds q_readPeople q_readQuarrels q_persons q_quarrels q_text q_row q_least q_told q_ways q_then q_isKept q_kept f_readR f_readP f_readQ f_rooms f_people f_pairs f_length f_at f_faultAt f_acts f_next f_seed f_needs f_now _ _ r5 hu) (cwV 2 hts gX8_room_X8_isDone rfl rfl rfl (by decide +kernel) ⟨Nat.le_of_ble_eq_true rfl, Nat.le_of_ble_eq_true rfl⟩) hK hP hD hS hA 0 rfl rfl rfl rfl hl.1 rfl (Nat.le_of_ble_eq_true rfl) dX8_room_78 ⟨Nat.le_of_ble_eq_true rfl, Nat.le_of_ble_eq_true rfl⟩ [0, 1, 3] [2] rfl rfl rfl rfl rfl [1, 2, 0, 3] rfl (fun _ => rfl) (fun _ H locs hP hD hS => ?_)
            refine gg_st_i ?_
            refine lv_if_eq (tgt := 88) hx hb dX8_room_81 (by decide) (fun hc => ?_) (fun hc => ?_)
            · replace hf := gg_pos hf hc
              refine lv_iconst (v := (0 : Int32)) hx hb dX8_room_88 (by decide) ?_
              cases hf
              rw [hQ]
              exact gg_iret hx hb hr hlocks hS (Nat.le_of_ble_eq_true rfl) (Nat.le_of_ble_eq_true rfl) dX8_room_89 () rfl hP hD
            · replace hf := gg_neg hf hc
              refine lv_iconst (v := (1 : Int32)) hx hb dX8_room_84 (by decide) ?_
              refine lv_goto (tgt := 89) hx hb dX8_room_85 (by decide) ?_
              cases hf
              rw [hQ]
              exact gg_iret hx hb hr hlocks hS (Nat.le_of_ble_eq_true rfl) (Nat.le_of_ble_eq_true rfl) dX8_room_89 () rfl hP hD
          · replace hf := gg_neg hf hs3
            by_cases hs4 : x2 = (4 : Int32)
            · replace hf := gg_pos hf hs4
              refine lv_tableIn (tgt := 90) hx hb dX8_room_11 (by rw [hs4]; decide) (by rw [hs4]; decide) (by rw [hs4]; rfl) (by decide) ?_
              refine lv_aload_n hx hb dX8_room_90 rfl (lv_at hl 0 rfl) ?_
              refine lv_iload_n hx hb dX8_room_91 rfl (lv_at hl 1 rfl) ?_
              obtain ⟨r6, hu, hf⟩ := gg_c1_x hf
              refine gg_callV (wr := [(q_needs, .inl (cI, 3, .inl f_needs)), (q_persons, .inl (cI, 20, .inl f_persons))]) (w2 := fun _ => [(q, .inr (8, [.ref q_readNeeds, .ref q_readPeople, .ref q_readQuarrels, .int f_readR, .int f_readP, .int f_readQ, .ref q_needs, .ref q_persons, .ref q_quarrels, .int f_rooms, .int f_people, .int f_pairs, .ref q_text, .int f_length, .int f_at, .int f_faultAt, .ref q_now, .int f_acts, .int f_next, .ref q_row, .ref q_least, .ref q_told, .ref q_ways, .ref q_then, .long f_seed, .ref q_isKept, .ref q_kept])), (q_needs, .inl (cI, 3, .inl f_needs)), (q_persons, .inl (cI, 20, .inl f_persons)), (q_now, .inl (cI, 194, .inl f_now))]) ⟨hx, hb, hml, hown, hts⟩ (mX8_redOf l D cI cJ cZ cR q q_now q_readNeeds q_readPeople q_readQuarrels q_needs q_persons q_quarrels q_text q_row q_least q_told q_ways q_then q_isKept q_kept f_readR f_readP f_readQ f_rooms f_people f_pairs f_length f_at f_faultAt f_acts f_next f_seed f_now _ r6 hu) (cwV 1 hts gX8_room_X8_redOf rfl rfl rfl (by decide +kernel) ⟨Nat.le_of_ble_eq_true rfl, Nat.le_of_ble_eq_true rfl⟩) hK hP hD hS hA 0 rfl rfl rfl rfl hl.1 rfl (Nat.le_of_ble_eq_true rfl) dX8_room_92 ⟨Nat.le_of_ble_eq_true rfl, Nat.le_of_ble_eq_true rfl⟩ [0, 3] [1, 2] rfl rfl rfl rfl rfl [2, 0, 1, 3] rfl (fun _ => rfl) (fun _ H locs hP hD hS => ?_)
              refine gg_st_i ?_
              cases hf
              rw [hQ]
              exact gg_iret hx hb hr hlocks hS (Nat.le_of_ble_eq_true rfl) (Nat.le_of_ble_eq_true rfl) dX8_room_95 () rfl hP hD
            · replace hf := gg_neg hf hs4
              by_cases hs5 : x2 = (5 : Int32)
              · replace hf := gg_pos hf hs5
                refine lv_tableIn (tgt := 96) hx hb dX8_room_11 (by rw [hs5]; decide) (by rw [hs5]; decide) (by rw [hs5]; rfl) (by decide) ?_
                refine lv_aload_n hx hb dX8_room_96 rfl (lv_at hl 0 rfl) ?_
                refine lv_iload_n hx hb dX8_room_97 rfl (lv_at hl 1 rfl) ?_
                obtain ⟨r7, hu, hf⟩ := gg_c1_x hf
                refine gg_callV (wr := [(q_needs, .inl (cI, 3, .inl f_needs)), (q_now, .inl (cI, 194, .inl f_now))]) (w2 := fun _ => [(q, .inr (8, [.ref q_readNeeds, .ref q_readPeople, .ref q_readQuarrels, .int f_readR, .int f_readP, .int f_readQ, .ref q_needs, .ref q_persons, .ref q_quarrels, .int f_rooms, .int f_people, .int f_pairs, .ref q_text, .int f_length, .int f_at, .int f_faultAt, .ref q_now, .int f_acts, .int f_next, .ref q_row, .ref q_least, .ref q_told, .ref q_ways, .ref q_then, .long f_seed, .ref q_isKept, .ref q_kept])), (q_needs, .inl (cI, 3, .inl f_needs)), (q_persons, .inl (cI, 20, .inl f_persons)), (q_now, .inl (cI, 194, .inl f_now))]) ⟨hx, hb, hml, hown, hts⟩ (mX8_ofRoom l D cI cJ cZ cR q q_persons q_readNeeds q_readPeople q_readQuarrels q_needs q_quarrels q_text q_now q_row q_least q_told q_ways q_then q_isKept q_kept f_readR f_readP f_readQ f_rooms f_people f_pairs f_length f_at f_faultAt f_acts f_next f_seed f_persons _ r7 hu) (cwV 1 hts gX8_room_X8_ofRoom rfl rfl rfl (by decide +kernel) ⟨Nat.le_of_ble_eq_true rfl, Nat.le_of_ble_eq_true rfl⟩) hK hP hD hS hA 0 rfl rfl rfl rfl hl.1 rfl (Nat.le_of_ble_eq_true rfl) dX8_room_98 ⟨Nat.le_of_ble_eq_true rfl, Nat.le_of_ble_eq_true rfl⟩ [0, 2] [1, 3] rfl rfl rfl rfl rfl [2, 0, 3, 1] rfl (fun _ => rfl) (fun _ H locs hP hD hS => ?_)
                refine gg_st_i ?_
                cases hf
                rw [hQ]
                exact gg_iret hx hb hr hlocks hS (Nat.le_of_ble_eq_true rfl) (Nat.le_of_ble_eq_true rfl) dX8_room_101 () rfl hP hD
              · replace hf := gg_neg hf hs5
                refine lv_tableOut (tgt := 102) hx hb dX8_room_11 (by have e0 := gg_i hs0 (k := 0) (by decide); have e1 := gg_i hs1 (k := 1) (by decide); have e2 := gg_i hs2 (k := 2) (by decide); have e3 := gg_i hs3 (k := 3) (by decide); have e4 := gg_i hs4 (k := 4) (by decide); have e5 := gg_i hs5 (k := 5) (by decide); omega) (by decide) ?_
                refine lv_bipush (v := (-2 : Int32)) hx hb dX8_room_102 (by decide) ?_
                cases hf
                rw [hQ]
                exact gg_iret hx hb hr hlocks hS (Nat.le_of_ble_eq_true rfl) (Nat.le_of_ble_eq_true rfl) dX8_room_104 () rfl hP hD
  · replace hf := gg_pos hf hc
    refine lv_iconst (v := (-1 : Int32)) hx hb dX8_room_8 (by decide) ?_
    cases hf
    rw [hQ]
    exact gg_iret hx hb hr hlocks hS (Nat.le_of_ble_eq_true rfl) (Nat.le_of_ble_eq_true rfl) dX8_room_9 () rfl hP hD
set_option maxHeartbeats 4000000 in
set_option maxRecDepth 100000 in
theorem mX8_knotsOf (l : Launch) (D : va_G) (cI cJ cZ cR : ClassId) (q q_now q_readNeeds q_readPeople q_readQuarrels q_needs q_persons q_quarrels q_text q_row q_least q_told q_ways q_then q_isKept q_kept : Nat) (f_readR : Int32) (f_readP : Int32) (f_readQ : Int32) (f_rooms : Int32) (f_people : Int32) (f_pairs : Int32) (f_length : Int32) (f_at : Int32) (f_faultAt : Int32) (f_acts : Int32) (f_next : Int32) (f_seed : Int64) (f_now : (Nat → Int32)) (x1 : Int32) (rr : Int32) (hf : pX8_knotsOf f_rooms f_now x1 = some rr) : gg_M gN vwCl (gg_T cI cJ cZ cR) l D yX8_knotsOf wsX8_knotsOf ({ frames := 0, cells := 0, slots := 0, locals := 0 } : Room) [.ref q, .int x1] [(q, .inr (8, [.ref q_readNeeds, .ref q_readPeople, .ref q_readQuarrels, .int f_readR, .int f_readP, .int f_readQ, .ref q_needs, .ref q_persons, .ref q_quarrels, .int f_rooms, .int f_people, .int f_pairs, .ref q_text, .int f_length, .int f_at, .int f_faultAt, .ref q_now, .int f_acts, .int f_next, .ref q_row, .ref q_least, .ref q_told, .ref q_ways, .ref q_then, .long f_seed, .ref q_isKept, .ref q_kept])), (q_now, .inl (cI, 194, .inl f_now))] (fun _ : Unit => some (.int rr)) (fun _ => [(q, .inr (8, [.ref q_readNeeds, .ref q_readPeople, .ref q_readQuarrels, .int f_readR, .int f_readP, .int f_readQ, .ref q_needs, .ref q_persons, .ref q_quarrels, .int f_rooms, .int f_people, .int f_pairs, .ref q_text, .int f_length, .int f_at, .int f_faultAt, .ref q_now, .int f_acts, .int f_next, .ref q_row, .ref q_least, .ref q_told, .ref q_ways, .ref q_then, .long f_seed, .ref q_isKept, .ref q_kept])), (q_now, .inl (cI, 194, .inl f_now))]) := by
  refine gg_M.of (cc := cX8_knotsOf) (maxL := 5) (rt := (some .int)) (by decide) rfl (Nat.le_of_ble_eq_true rfl) ?_
  intro p e s m below meth c A args Q hQ hx hb hr hml hts hown hlocks hin hA hS hP hK hD ls hl
  replace hown : s.vm.findClass RX8 = some m.cls := hown
  replace hl : lv_has ls 5 [(0, .ref q), (1, .int x1)] := hl
  have k108 := (hts (.fieldLink RX8 108 "AbsentCarpetsModel" "rooms" "I") (List.mem_of_getElem? (i := 1) rfl))
  have k31 := (hts (.fieldLink RX8 31 "AbsentCarpetsModel" "now" "[I") (List.mem_of_getElem? (i := 2) rfl))
  have iX8 : ∀ w ∈ wsX80, w ∈ wsX8_knotsOf := fun _ h => List.mem_cons_of_mem _ (List.mem_append_right _ (h))
  have L15 : ∀ (y5 : Int32) (y6 : Int32) (y9 : Int32), (∀ (H : Heap) (locs : List Loc) (ls : Array Slot), va_P D vwCl [(q, .inr (8, [.ref q_readNeeds, .ref q_readPeople, .ref q_readQuarrels, .int f_readR, .int f_readP, .int f_readQ, .ref q_needs, .ref q_persons, .ref q_quarrels, .int f_rooms, .int f_people, .int f_pairs, .ref q_text, .int f_length, .int f_at, .int f_faultAt, .ref q_now, .int f_acts, .int f_next, .ref q_row, .ref q_least, .ref q_told, .ref q_ways, .ref q_then, .long f_seed, .ref q_isKept, .ref q_kept])), (q_now, .inl (cI, 194, .inl f_now))] H → va_D A [(q, .inr (8, [.ref q_readNeeds, .ref q_readPeople, .ref q_readQuarrels, .int f_readR, .int f_readP, .int f_readQ, .ref q_needs, .ref q_persons, .ref q_quarrels, .int f_rooms, .int f_people, .int f_pairs, .ref q_text, .int f_length, .int f_at, .int f_faultAt, .ref q_now, .int f_acts, .int f_next, .ref q_row, .ref q_least, .ref q_told, .ref q_ways, .ref q_then, .long f_seed, .ref q_isKept, .ref q_kept])), (q_now, .inl (cI, 194, .inl f_now))] → va_S A s.heap H locs → lv_has ls 5 [(0, .ref q), (1, .int y5), (2, .int y9), (3, .int y6)] → W p l e ({ frames := 0, cells := 0, slots := 0, locals := 0 } : Room) s m args below meth c H locs 0 0 Q (F0 m 61 ls [])) → ∀ (nlp : Nat) (y7 : Int32) (y8 : Int32), gg_lpF (fun (s : (Int32 × Int32)) => pX8_knotsOf_L15 f_rooms f_now y5 y6 s.1 s.2) nlp (y7, y8) = some y9 → ∀ (H : Heap) (locs : List Loc) (ls : Array Slot), va_P D vwCl [(q, .inr (8, [.ref q_readNeeds, .ref q_readPeople, .ref q_readQuarrels, .int f_readR, .int f_readP, .int f_readQ, .ref q_needs, .ref q_persons, .ref q_quarrels, .int f_rooms, .int f_people, .int f_pairs, .ref q_text, .int f_length, .int f_at, .int f_faultAt, .ref q_now, .int f_acts, .int f_next, .ref q_row, .ref q_least, .ref q_told, .ref q_ways, .ref q_then, .long f_seed, .ref q_isKept, .ref q_kept])), (q_now, .inl (cI, 194, .inl f_now))] H → va_D A [(q, .inr (8, [.ref q_readNeeds, .ref q_readPeople, .ref q_readQuarrels, .int f_readR, .int f_readP, .int f_readQ, .ref q_needs, .ref q_persons, .ref q_quarrels, .int f_rooms, .int f_people, .int f_pairs, .ref q_text, .int f_length, .int f_at, .int f_faultAt, .ref q_now, .int f_acts, .int f_next, .ref q_row, .ref q_least, .ref q_told, .ref q_ways, .ref q_then, .long f_seed, .ref q_isKept, .ref q_kept])), (q_now, .inl (cI, 194, .inl f_now))] → va_S A s.heap H locs → lv_has ls 5 [(0, .ref q), (1, .int y5), (2, .int y7), (3, .int y6), (4, .int y8)] → W p l e ({ frames := 0, cells := 0, slots := 0, locals := 0 } : Room) s m args below meth c H locs 0 0 Q (F0 m 15 ls []) := by
    intro y5 y6 y9 hE nlp
    induction nlp with
    | zero => intro y7 y8 hf; cases hf
    | succ nlp ih =>
      intro y7 y8 hf H locs ls hP hD hS hl
      obtain ⟨zz, hz, hzE, hzN⟩ := gg_lpF_x hf
      replace hf : pX8_knotsOf_L15 f_rooms f_now y5 y6 y7 y8 = some zz := hz
      have J53 : ∀ (y12 : Int32) (s13 : Int32) (s14 : Int32) (H : Heap) (locs : List Loc) (ls : Array Slot), pX8_knotsOf_j53 f_rooms f_now y5 y6 y12 s13 s14 = some zz → va_P D vwCl [(q, .inr (8, [.ref q_readNeeds, .ref q_readPeople, .ref q_readQuarrels, .int f_readR, .int f_readP, .int f_readQ, .ref q_needs, .ref q_persons, .ref q_quarrels, .int f_rooms, .int f_people, .int f_pairs, .ref q_text, .int f_length, .int f_at, .int f_faultAt, .ref q_now, .int f_acts, .int f_next, .ref q_row, .ref q_least, .ref q_told, .ref q_ways, .ref q_then, .long f_seed, .ref q_isKept, .ref q_kept])), (q_now, .inl (cI, 194, .inl f_now))] H → va_D A [(q, .inr (8, [.ref q_readNeeds, .ref q_readPeople, .ref q_readQuarrels, .int f_readR, .int f_readP, .int f_readQ, .ref q_needs, .ref q_persons, .ref q_quarrels, .int f_rooms, .int f_people, .int f_pairs, .ref q_text, .int f_length, .int f_at, .int f_faultAt, .ref q_now, .int f_acts, .int f_next, .ref q_row, .ref q_least, .ref q_told, .ref q_ways, .ref q_then, .long f_seed, .ref q_isKept, .ref q_kept])), (q_now, .inl (cI, 194, .inl f_now))] → va_S A s.heap H locs → lv_has ls 5 [(0, .ref q), (1, .int y5), (3, .int y6), (4, .int y12)] → W p l e ({ frames := 0, cells := 0, slots := 0, locals := 0 } : Room) s m args below meth c H locs 0 0 Q (F0 m 53 ls [.int s14, .int s13]) := by
        intro y12 s13 s14 H locs ls hf hP hD hS hl
        unfold pX8_knotsOf_j53 at hf
        refine lv_iadd hx hb dX8_knotsOf_53 ?_
        refine gg_topi hf (fun v15 hf => ?_)
        refine lv_istore_n (lv' := [(2, .int v15), (0, .ref q), (1, .int y5), (3, .int y6), (4, .int y12)]) hx hb dX8_knotsOf_54 rfl hl (by decide) rfl (fun ls hl => ?_)
        refine gg_iinc (cst := (1 : Int32)) (k := 4) (lv' := fun v16 => [(4, .int v16), (2, .int v15), (0, .ref q), (1, .int y5), (3, .int y6)]) hx hb dX8_knotsOf_55 hl rfl (by decide) (by decide) (fun _ => rfl) hf (fun v16 ls hl hf => ?_)
        refine lv_goto (tgt := 15) hx hb dX8_knotsOf_58 (by decide) ?_
        exact ih _ _ (hzN _ (Option.some.inj hf).symm) _ _ _ hP hD hS (lv_sub hl [2, 3, 1, 4, 0] rfl)
      unfold pX8_knotsOf_L15 at hf
      refine lv_iload hx hb dX8_knotsOf_15 (lv_at hl 4 rfl) ?_
      refine lv_aload_n hx hb dX8_knotsOf_17 rfl (lv_at hl 0 rfl) ?_
      refine gg_get hx hb hts iX8 hown hK hP 0 rfl rfl 16 (by decide) k31 rfl rfl dX8_knotsOf_18 ?_
      refine lv_bipush (v := (90 : Int32)) hx hb dX8_knotsOf_21 (by decide) ?_
      refine lv_iload_n hx hb dX8_knotsOf_23 rfl (lv_at hl 3 rfl) ?_
      refine lv_iadd hx hb dX8_knotsOf_24 ?_
      refine gg_iald hx hb hK hP 1 0 rfl rfl dX8_knotsOf_25 hf (fun hf => ?_)
      refine lv_icmp_ge (tgt := 61) hx hb dX8_knotsOf_26 (by decide) (fun hc => ?_) (fun hc => ?_)
      · replace hf := gg_pos hf hc
        have hq := hzE _ (Option.some.inj hf).symm
        cases hq
        exact hE _ _ _ hP hD hS (lv_sub hl [0, 1, 2, 3] rfl)
      · replace hf := gg_neg hf hc
        refine lv_iload_n hx hb dX8_knotsOf_29 rfl (lv_at hl 2 rfl) ?_
        refine lv_aload_n hx hb dX8_knotsOf_30 rfl (lv_at hl 0 rfl) ?_
        refine gg_get hx hb hts iX8 hown hK hP 0 rfl rfl 16 (by decide) k31 rfl rfl dX8_knotsOf_31 ?_
        refine lv_bipush (v := (30 : Int32)) hx hb dX8_knotsOf_34 (by decide) ?_
        refine lv_iload_n hx hb dX8_knotsOf_36 rfl (lv_at hl 3 rfl) ?_
        refine lv_imul hx hb dX8_knotsOf_37 ?_
        refine lv_iload hx hb dX8_knotsOf_38 (lv_at hl 4 rfl) ?_
        refine lv_iadd hx hb dX8_knotsOf_40 ?_
        refine gg_iald hx hb hK hP 1 0 rfl rfl dX8_knotsOf_41 hf (fun hf => ?_)
        refine lv_iconst (v := (2 : Int32)) hx hb dX8_knotsOf_42 (by decide) ?_
        refine lv_idiv hx hb dX8_knotsOf_43 (by decide) ?_
        refine lv_iload_n hx hb dX8_knotsOf_44 rfl (lv_at hl 1 rfl) ?_
        refine lv_icmp_ne (tgt := 52) hx hb dX8_knotsOf_45 (by decide) (fun hc => ?_) (fun hc => ?_)
        · replace hf := gg_neg hf hc
          refine lv_iconst (v := (0 : Int32)) hx hb dX8_knotsOf_52 (by decide) ?_
          exact J53 _ _ _ _ _ _ hf hP hD hS (lv_sub hl [0, 1, 3, 4] rfl)
        · replace hf := gg_pos hf hc
          refine lv_iconst (v := (1 : Int32)) hx hb dX8_knotsOf_48 (by decide) ?_
          refine lv_goto (tgt := 53) hx hb dX8_knotsOf_49 (by decide) ?_
          exact J53 _ _ _ _ _ _ hf hP hD hS (lv_sub hl [0, 1, 3, 4] rfl)
  have L4 : ∀ (y1 : Int32) (y4 : Int32), (∀ (H : Heap) (locs : List Loc) (ls : Array Slot), va_P D vwCl [(q, .inr (8, [.ref q_readNeeds, .ref q_readPeople, .ref q_readQuarrels, .int f_readR, .int f_readP, .int f_readQ, .ref q_needs, .ref q_persons, .ref q_quarrels, .int f_rooms, .int f_people, .int f_pairs, .ref q_text, .int f_length, .int f_at, .int f_faultAt, .ref q_now, .int f_acts, .int f_next, .ref q_row, .ref q_least, .ref q_told, .ref q_ways, .ref q_then, .long f_seed, .ref q_isKept, .ref q_kept])), (q_now, .inl (cI, 194, .inl f_now))] H → va_D A [(q, .inr (8, [.ref q_readNeeds, .ref q_readPeople, .ref q_readQuarrels, .int f_readR, .int f_readP, .int f_readQ, .ref q_needs, .ref q_persons, .ref q_quarrels, .int f_rooms, .int f_people, .int f_pairs, .ref q_text, .int f_length, .int f_at, .int f_faultAt, .ref q_now, .int f_acts, .int f_next, .ref q_row, .ref q_least, .ref q_told, .ref q_ways, .ref q_then, .long f_seed, .ref q_isKept, .ref q_kept])), (q_now, .inl (cI, 194, .inl f_now))] → va_S A s.heap H locs → lv_has ls 5 [(2, .int y4)] → W p l e ({ frames := 0, cells := 0, slots := 0, locals := 0 } : Room) s m args below meth c H locs 0 0 Q (F0 m 67 ls [])) → ∀ (nlp : Nat) (y2 : Int32) (y3 : Int32), gg_lpF (fun (s : (Int32 × Int32)) => pX8_knotsOf_L4 f_rooms f_now y1 s.1 s.2) nlp (y2, y3) = some y4 → ∀ (H : Heap) (locs : List Loc) (ls : Array Slot), va_P D vwCl [(q, .inr (8, [.ref q_readNeeds, .ref q_readPeople, .ref q_readQuarrels, .int f_readR, .int f_readP, .int f_readQ, .ref q_needs, .ref q_persons, .ref q_quarrels, .int f_rooms, .int f_people, .int f_pairs, .ref q_text, .int f_length, .int f_at, .int f_faultAt, .ref q_now, .int f_acts, .int f_next, .ref q_row, .ref q_least, .ref q_told, .ref q_ways, .ref q_then, .long f_seed, .ref q_isKept, .ref q_kept])), (q_now, .inl (cI, 194, .inl f_now))] H → va_D A [(q, .inr (8, [.ref q_readNeeds, .ref q_readPeople, .ref q_readQuarrels, .int f_readR, .int f_readP, .int f_readQ, .ref q_needs, .ref q_persons, .ref q_quarrels, .int f_rooms, .int f_people, .int f_pairs, .ref q_text, .int f_length, .int f_at, .int f_faultAt, .ref q_now, .int f_acts, .int f_next, .ref q_row, .ref q_least, .ref q_told, .ref q_ways, .ref q_then, .long f_seed, .ref q_isKept, .ref q_kept])), (q_now, .inl (cI, 194, .inl f_now))] → va_S A s.heap H locs → lv_has ls 5 [(0, .ref q), (1, .int y1), (2, .int y2), (3, .int y3)] → W p l e ({ frames := 0, cells := 0, slots := 0, locals := 0 } : Room) s m args below meth c H locs 0 0 Q (F0 m 4 ls []) := by
    intro y1 y4 hE nlp
    induction nlp with
    | zero => intro y2 y3 hf; cases hf
    | succ nlp ih =>
      intro y2 y3 hf H locs ls hP hD hS hl
      obtain ⟨zz, hz, hzE, hzN⟩ := gg_lpF_x hf
      replace hf : pX8_knotsOf_L4 f_rooms f_now y1 y2 y3 = some zz := hz
      unfold pX8_knotsOf_L4 at hf
      refine lv_iload_n hx hb dX8_knotsOf_4 rfl (lv_at hl 3 rfl) ?_
      refine lv_aload_n hx hb dX8_knotsOf_5 rfl (lv_at hl 0 rfl) ?_
      refine gg_get hx hb hts iX8 hown hK hP 0 rfl rfl 9 (by decide) k108 rfl rfl dX8_knotsOf_6 ?_
      refine lv_icmp_ge (tgt := 67) hx hb dX8_knotsOf_9 (by decide) (fun hc => ?_) (fun hc => ?_)
      · replace hf := gg_pos hf hc
        have hq := hzE _ (Option.some.inj hf).symm
        cases hq
        exact hE _ _ _ hP hD hS (lv_sub hl [2] rfl)
      · replace hf := gg_neg hf hc
        refine lv_iconst (v := (0 : Int32)) hx hb dX8_knotsOf_12 (by decide) ?_
        refine lv_istore (lv' := [(4, .int (0 : Int32)), (0, .ref q), (1, .int y1), (2, .int y2), (3, .int y3)]) hx hb dX8_knotsOf_13 hl (by decide) rfl (fun ls hl => ?_)
        obtain ⟨y17, hlp, hf⟩ := gg_c1_x hf
        obtain ⟨nlp, hlp⟩ := gg_lp_x hlp
        refine L15 _ _ _ (fun H locs ls hP hD hS hl => ?_) nlp _ _ hlp _ _ _ hP hD hS (lv_sub hl [1, 2, 3, 4, 0] rfl)
        refine gg_iinc (cst := (1 : Int32)) (k := 3) (lv' := fun v18 => [(3, .int v18), (0, .ref q), (1, .int y1), (2, .int y17)]) hx hb dX8_knotsOf_61 hl rfl (by decide) (by decide) (fun _ => rfl) hf (fun v18 ls hl hf => ?_)
        refine lv_goto (tgt := 4) hx hb dX8_knotsOf_64 (by decide) ?_
        exact ih _ _ (hzN _ (Option.some.inj hf).symm) _ _ _ hP hD hS (lv_sub hl [1, 2, 3, 0] rfl)
  unfold pX8_knotsOf at hf
  refine lv_iconst (v := (0 : Int32)) hx hb dX8_knotsOf_0 (by decide) ?_
  refine lv_istore_n (lv' := [(2, .int (0 : Int32)), (0, .ref q), (1, .int x1)]) hx hb dX8_knotsOf_1 rfl hl (by decide) rfl (fun ls hl => ?_)
  refine lv_iconst (v := (0 : Int32)) hx hb dX8_knotsOf_2 (by decide) ?_
  refine lv_istore_n (lv' := [(3, .int (0 : Int32)), (2, .int (0 : Int32)), (0, .ref q), (1, .int x1)]) hx hb dX8_knotsOf_3 rfl hl (by decide) rfl (fun ls hl => ?_)
  obtain ⟨y19, hlp, hf⟩ := gg_c1_x hf
  obtain ⟨nlp, hlp⟩ := gg_lp_x hlp
  refine L4 _ _ (fun H locs ls hP hD hS hl => ?_) nlp _ _ hlp _ _ _ hP hD hS (lv_sub hl [2, 3, 1, 0] rfl)
  refine lv_iload_n hx hb dX8_knotsOf_67 rfl (lv_at hl 0 rfl) ?_
  cases hf
  rw [hQ]
  exact gg_iret hx hb hr hlocks hS (Nat.le_of_ble_eq_true rfl) (Nat.le_of_ble_eq_true rfl) dX8_knotsOf_68 () rfl hP hD
set_option maxHeartbeats 4000000 in
set_option maxRecDepth 100000 in
theorem mX8_person (l : Launch) (D : va_G) (cI cJ cZ cR : ClassId) (q q_persons q_now q_readNeeds q_readPeople q_readQuarrels q_needs q_quarrels q_text q_row q_least q_told q_ways q_then q_isKept q_kept : Nat) (f_readR : Int32) (f_readP : Int32) (f_readQ : Int32) (f_rooms : Int32) (f_people : Int32) (f_pairs : Int32) (f_length : Int32) (f_at : Int32) (f_faultAt : Int32) (f_acts : Int32) (f_next : Int32) (f_seed : Int64) (f_persons : (Nat → Int32)) (f_now : (Nat → Int32)) (x1 : Int32) (x2 : Int32) (rr : Int32) (hf : pX8_person f_rooms f_people f_persons f_now x1 x2 = some rr) : gg_M gN vwCl (gg_T cI cJ cZ cR) l D yX8_person wsX8_person ({ frames := 2, cells := 0, slots := 0, locals := 46 } : Room) [.ref q, .int x1, .int x2] [(q, .inr (8, [.ref q_readNeeds, .ref q_readPeople, .ref q_readQuarrels, .int f_readR, .int f_readP, .int f_readQ, .ref q_needs, .ref q_persons, .ref q_quarrels, .int f_rooms, .int f_people, .int f_pairs, .ref q_text, .int f_length, .int f_at, .int f_faultAt, .ref q_now, .int f_acts, .int f_next, .ref q_row, .ref q_least, .ref q_told, .ref q_ways, .ref q_then, .long f_seed, .ref q_isKept, .ref q_kept])), (q_persons, .inl (cI, 20, .inl f_persons)), (q_now, .inl (cI, 194, .inl f_now))] (fun _ : Unit => some (.int rr)) (fun _ => [(q, .inr (8, [.ref q_readNeeds, .ref q_readPeople, .ref q_readQuarrels, .int f_readR, .int f_readP, .int f_readQ, .ref q_needs, .ref q_persons, .ref q_quarrels, .int f_rooms, .int f_people, .int f_pairs, .ref q_text, .int f_length, .int f_at, .int f_faultAt, .ref q_now, .int f_acts, .int f_next, .ref q_row, .ref q_least, .ref q_told, .ref q_ways, .ref q_then, .long f_seed, .ref q_isKept, .ref q_kept])), (q_persons, .inl (cI, 20, .inl f_persons)), (q_now, .inl (cI, 194, .inl f_now))]) := by
  refine gg_M.of (cc := cX8_person) (maxL := 3) (rt := (some .int)) (by decide) rfl (Nat.le_of_ble_eq_true rfl) ?_
  intro p e s m below meth c A args Q hQ hx hb hr hml hts hown hlocks hin hA hS hP hK hD ls hl
  replace hown : s.vm.findClass RX8 = some m.cls := hown
  replace hl : lv_has ls 3 [(0, .ref q), (1, .int x1), (2, .int x2)] := hl
  have k22 := (hts (.fieldLink RX8 22 "AbsentCarpetsModel" "persons" "[I") (List.mem_of_getElem? (i := 2) rfl))
  have iX8 : ∀ w ∈ wsX80, w ∈ wsX8_person := fun _ h => List.mem_cons_of_mem _ (List.mem_append_right _ (h))
  unfold pX8_person at hf
  refine lv_aload_n hx hb dX8_person_0 rfl (lv_at hl 0 rfl) ?_
  refine lv_iload_n hx hb dX8_person_1 rfl (lv_at hl 1 rfl) ?_
  obtain ⟨r1, hu, hf⟩ := gg_c1_x hf
  refine gg_callV (wr := [(q_persons, .inl (cI, 20, .inl f_persons)), (q_now, .inl (cI, 194, .inl f_now))]) (w2 := fun _ => [(q, .inr (8, [.ref q_readNeeds, .ref q_readPeople, .ref q_readQuarrels, .int f_readR, .int f_readP, .int f_readQ, .ref q_needs, .ref q_persons, .ref q_quarrels, .int f_rooms, .int f_people, .int f_pairs, .ref q_text, .int f_length, .int f_at, .int f_faultAt, .ref q_now, .int f_acts, .int f_next, .ref q_row, .ref q_least, .ref q_told, .ref q_ways, .ref q_then, .long f_seed, .ref q_isKept, .ref q_kept])), (q_persons, .inl (cI, 20, .inl f_persons)), (q_now, .inl (cI, 194, .inl f_now))]) ⟨hx, hb, hml, hown, hts⟩ (mX8_isPerson l D cI cJ cZ cR q q_readNeeds q_readPeople q_readQuarrels q_needs q_persons q_quarrels q_text q_now q_row q_least q_told q_ways q_then q_isKept q_kept f_readR f_readP f_readQ f_rooms f_people f_pairs f_length f_at f_faultAt f_acts f_next f_seed _ r1 hu) (cwV 1 hts gX8_person_X8_isPerson rfl rfl rfl (by decide +kernel) ⟨Nat.le_of_ble_eq_true rfl, Nat.le_of_ble_eq_true rfl⟩) hK hP hD hS hA 0 rfl rfl rfl rfl hl.1 rfl (Nat.le_of_ble_eq_true rfl) dX8_person_2 ⟨Nat.le_of_ble_eq_true rfl, Nat.le_of_ble_eq_true rfl⟩ [0] [1, 2] rfl rfl rfl rfl rfl [2, 0, 1] rfl (fun _ => rfl) (fun _ H locs hP hD hS => ?_)
  refine gg_st_i ?_
  refine lv_if_ne (tgt := 10) hx hb dX8_person_5 (by decide) (fun hc => ?_) (fun hc => ?_)
  · replace hf := gg_neg hf hc
    refine lv_iload_n hx hb dX8_person_10 rfl (lv_at hl 2 rfl) ?_
    refine lv_i2l hx hb dX8_person_11 rfl ?_
    refine lv_lconst (v := (0 : Int64)) hx hb dX8_person_12 (by decide) ?_
    refine lv_ldc2 (v := (3 : Int64)) hx hb hown (hts (.constantLong RX8 137 (3)) (List.mem_of_getElem? (i := 1) rfl)) dX8_person_13 ?_
    obtain ⟨r2, hu, hf⟩ := gg_c1_x hf
    refine gg_callS (wr := [(q, .inr (8, [.ref q_readNeeds, .ref q_readPeople, .ref q_readQuarrels, .int f_readR, .int f_readP, .int f_readQ, .ref q_needs, .ref q_persons, .ref q_quarrels, .int f_rooms, .int f_people, .int f_pairs, .ref q_text, .int f_length, .int f_at, .int f_faultAt, .ref q_now, .int f_acts, .int f_next, .ref q_row, .ref q_least, .ref q_told, .ref q_ways, .ref q_then, .long f_seed, .ref q_isKept, .ref q_kept])), (q_persons, .inl (cI, 20, .inl f_persons)), (q_now, .inl (cI, 194, .inl f_now))]) (w2 := fun _ => [(q, .inr (8, [.ref q_readNeeds, .ref q_readPeople, .ref q_readQuarrels, .int f_readR, .int f_readP, .int f_readQ, .ref q_needs, .ref q_persons, .ref q_quarrels, .int f_rooms, .int f_people, .int f_pairs, .ref q_text, .int f_length, .int f_at, .int f_faultAt, .ref q_now, .int f_acts, .int f_next, .ref q_row, .ref q_least, .ref q_told, .ref q_ways, .ref q_then, .long f_seed, .ref q_isKept, .ref q_kept])), (q_persons, .inl (cI, 20, .inl f_persons)), (q_now, .inl (cI, 194, .inl f_now))]) ⟨hx, hb, hml, hown, hts⟩ (mX8_in l D cI cJ cZ cR   _ _ _ r2 hu) (va_cwS 3 hts gX8_person_X8_in rfl rfl rfl (by decide +kernel) ⟨Nat.le_of_ble_eq_true rfl, Nat.le_of_ble_eq_true rfl⟩) hK hP hD hS hA rfl hl.1 rfl (Nat.le_of_ble_eq_true rfl) dX8_person_16 ⟨Nat.le_of_ble_eq_true rfl, Nat.le_of_ble_eq_true rfl⟩ [] [0, 1, 2] rfl rfl rfl rfl rfl [0, 1, 2] rfl (fun _ => rfl) (fun _ H locs hP hD hS => ?_)
    refine gg_st_i ?_
    refine lv_if_eq (tgt := 35) hx hb dX8_person_19 (by decide) (fun hc => ?_) (fun hc => ?_)
    · replace hf := gg_pos hf hc
      refine lv_iload_n hx hb dX8_person_35 rfl (lv_at hl 2 rfl) ?_
      refine lv_iconst (v := (4 : Int32)) hx hb dX8_person_36 (by decide) ?_
      refine lv_icmp_ne (tgt := 48) hx hb dX8_person_37 (by decide) (fun hc => ?_) (fun hc => ?_)
      · replace hf := gg_neg hf hc
        refine lv_bipush (v := (-2 : Int32)) hx hb dX8_person_48 (by decide) ?_
        cases hf
        rw [hQ]
        exact gg_iret hx hb hr hlocks hS (Nat.le_of_ble_eq_true rfl) (Nat.le_of_ble_eq_true rfl) dX8_person_50 () rfl hP hD
      · replace hf := gg_pos hf hc
        refine lv_aload_n hx hb dX8_person_40 rfl (lv_at hl 0 rfl) ?_
        refine lv_iload_n hx hb dX8_person_41 rfl (lv_at hl 1 rfl) ?_
        obtain ⟨r3, hu, hf⟩ := gg_c1_x hf
        refine gg_callV (wr := [(q_persons, .inl (cI, 20, .inl f_persons))]) (w2 := fun _ => [(q, .inr (8, [.ref q_readNeeds, .ref q_readPeople, .ref q_readQuarrels, .int f_readR, .int f_readP, .int f_readQ, .ref q_needs, .ref q_persons, .ref q_quarrels, .int f_rooms, .int f_people, .int f_pairs, .ref q_text, .int f_length, .int f_at, .int f_faultAt, .ref q_now, .int f_acts, .int f_next, .ref q_row, .ref q_least, .ref q_told, .ref q_ways, .ref q_then, .long f_seed, .ref q_isKept, .ref q_kept])), (q_persons, .inl (cI, 20, .inl f_persons)), (q_now, .inl (cI, 194, .inl f_now))]) ⟨hx, hb, hml, hown, hts⟩ (mX8_knotsOf l D cI cJ cZ cR q q_now q_readNeeds q_readPeople q_readQuarrels q_needs q_persons q_quarrels q_text q_row q_least q_told q_ways q_then q_isKept q_kept f_readR f_readP f_readQ f_rooms f_people f_pairs f_length f_at f_faultAt f_acts f_next f_seed f_now _ r3 hu) (cwV 1 hts gX8_person_X8_knotsOf rfl rfl rfl (by decide +kernel) ⟨Nat.le_of_ble_eq_true rfl, Nat.le_of_ble_eq_true rfl⟩) hK hP hD hS hA 0 rfl rfl rfl rfl hl.1 rfl (Nat.le_of_ble_eq_true rfl) dX8_person_42 ⟨Nat.le_of_ble_eq_true rfl, Nat.le_of_ble_eq_true rfl⟩ [0, 2] [1] rfl rfl rfl rfl rfl [1, 0, 2] rfl (fun _ => rfl) (fun _ H locs hP hD hS => ?_)
        refine gg_st_i ?_
        refine lv_goto (tgt := 50) hx hb dX8_person_45 (by decide) ?_
        cases hf
        rw [hQ]
        exact gg_iret hx hb hr hlocks hS (Nat.le_of_ble_eq_true rfl) (Nat.le_of_ble_eq_true rfl) dX8_person_50 () rfl hP hD
    · replace hf := gg_neg hf hc
      refine lv_aload_n hx hb dX8_person_22 rfl (lv_at hl 0 rfl) ?_
      refine gg_get hx hb hts iX8 hown hK hP 0 rfl rfl 7 (by decide) k22 rfl rfl dX8_person_23 ?_
      refine lv_iconst (v := (4 : Int32)) hx hb dX8_person_26 (by decide) ?_
      refine lv_iload_n hx hb dX8_person_27 rfl (lv_at hl 1 rfl) ?_
      refine lv_imul hx hb dX8_person_28 ?_
      refine lv_iload_n hx hb dX8_person_29 rfl (lv_at hl 2 rfl) ?_
      refine lv_iadd hx hb dX8_person_30 ?_
      refine gg_iald hx hb hK hP 1 0 rfl rfl dX8_person_31 hf (fun hf => ?_)
      refine lv_goto (tgt := 50) hx hb dX8_person_32 (by decide) ?_
      cases hf
      rw [hQ]
      exact gg_iret hx hb hr hlocks hS (Nat.le_of_ble_eq_true rfl) (Nat.le_of_ble_eq_true rfl) dX8_person_50 () rfl hP hD
  · replace hf := gg_pos hf hc
    refine lv_iconst (v := (-1 : Int32)) hx hb dX8_person_8 (by decide) ?_
    cases hf
    rw [hQ]
    exact gg_iret hx hb hr hlocks hS (Nat.le_of_ble_eq_true rfl) (Nat.le_of_ble_eq_true rfl) dX8_person_9 () rfl hP hD
