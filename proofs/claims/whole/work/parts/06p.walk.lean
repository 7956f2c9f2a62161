set_option maxHeartbeats 4000000 in
set_option maxRecDepth 100000 in
theorem mX8_luck (l : Launch) (D : va_G) (cI cJ cZ cR : ClassId) (q q_needs q_persons q_now q_ways q_then q_readNeeds q_readPeople q_readQuarrels q_quarrels q_text q_row q_least q_told q_isKept q_kept : Nat) (f_readR : Int32) (f_readP : Int32) (f_readQ : Int32) (f_rooms : Int32) (f_people : Int32) (f_pairs : Int32) (f_length : Int32) (f_at : Int32) (f_faultAt : Int32) (f_acts : Int32) (f_next : Int32) (f_seed : Int64) (f_needs : (Nat → Int32)) (f_persons : (Nat → Int32)) (f_now : (Nat → Int32)) (f_ways : (Nat → Int64)) (f_then : (Nat → Int64)) (x1 : Int32) (x2 : Int32) (x3 : Int32) (rr : Int64) (nf_ways : (Nat → Int64)) (nf_then : (Nat → Int64)) (hf : pX8_luck f_rooms f_people f_needs f_persons f_now f_ways f_then x1 x2 x3 = some (rr, nf_ways, nf_then)) : gg_M gN vwCl (gg_T cI cJ cZ cR) l D yX8_luck wsX8_luck ({ frames := 2, cells := 0, slots := 0, locals := 46 } : Room) [.ref q, .int x1, .int x2, .int x3] [(q, .inr (8, [.ref q_readNeeds, .ref q_readPeople, .ref q_readQuarrels, .int f_readR, .int f_readP, .int f_readQ, .ref q_needs, .ref q_persons, .ref q_quarrels, .int f_rooms, .int f_people, .int f_pairs, .ref q_text, .int f_length, .int f_at, .int f_faultAt, .ref q_now, .int f_acts, .int f_next, .ref q_row, .ref q_least, .ref q_told, .ref q_ways, .ref q_then, .long f_seed, .ref q_isKept, .ref q_kept])), (q_needs, .inl (cI, 3, .inl f_needs)), (q_persons, .inl (cI, 20, .inl f_persons)), (q_now, .inl (cI, 194, .inl f_now)), (q_ways, .inl (cJ, 124, .inr (.inl f_ways))), (q_then, .inl (cJ, 124, .inr (.inl f_then)))] (fun _ : Unit => some (.long rr)) (fun _ => [(q, .inr (8, [.ref q_readNeeds, .ref q_readPeople, .ref q_readQuarrels, .int f_readR, .int f_readP, .int f_readQ, .ref q_needs, .ref q_persons, .ref q_quarrels, .int f_rooms, .int f_people, .int f_pairs, .ref q_text, .int f_length, .int f_at, .int f_faultAt, .ref q_now, .int f_acts, .int f_next, .ref q_row, .ref q_least, .ref q_told, .ref q_ways, .ref q_then, .long f_seed, .ref q_isKept, .ref q_kept])), (q_needs, .inl (cI, 3, .inl f_needs)), (q_persons, .inl (cI, 20, .inl f_persons)), (q_now, .inl (cI, 194, .inl f_now)), (q_ways, .inl (cJ, 124, .inr (.inl nf_ways))), (q_then, .inl (cJ, 124, .inr (.inl nf_then)))]) := by
  refine gg_M.of (cc := cX8_luck) (maxL := 9) (rt := (some .long)) (by decide) rfl (Nat.le_of_ble_eq_true rfl) ?_
  intro p e s m below meth c A args Q hQ hx hb hr hml hts hown hlocks hin hA hS hP hK hD ls hl
  replace hown : s.vm.findClass RX8 = some m.cls := hown
  replace hl : lv_has ls 9 [(0, .ref q), (1, .int x1), (2, .int x2), (3, .int x3)] := hl
  have k43 := (hts (.fieldLink RX8 43 "AbsentCarpetsModel" "ways" "[J") (List.mem_of_getElem? (i := 4) rfl))
  have k31 := (hts (.fieldLink RX8 31 "AbsentCarpetsModel" "now" "[I") (List.mem_of_getElem? (i := 5) rfl))
  have k47 := (hts (.fieldLink RX8 47 "AbsentCarpetsModel" "then" "[J") (List.mem_of_getElem? (i := 6) rfl))
  have k111 := (hts (.fieldLink RX8 111 "AbsentCarpetsModel" "people" "I") (List.mem_of_getElem? (i := 7) rfl))
  have k19 := (hts (.fieldLink RX8 19 "AbsentCarpetsModel" "needs" "[I") (List.mem_of_getElem? (i := 8) rfl))
  have iX8 : ∀ w ∈ wsX80, w ∈ wsX8_luck := fun _ h => List.mem_cons_of_mem _ (List.mem_append_right _ (h))
  have L31 : ∀ (w3 : (Nat → Int64)) (y4 : Int32) (y5 : Int32) (y6 : Int32) (w9 : (Nat → Int64)), (∀ (H : Heap) (locs : List Loc) (ls : Array Slot), va_P D vwCl [(q, .inr (8, [.ref q_readNeeds, .ref q_readPeople, .ref q_readQuarrels, .int f_readR, .int f_readP, .int f_readQ, .ref q_needs, .ref q_persons, .ref q_quarrels, .int f_rooms, .int f_people, .int f_pairs, .ref q_text, .int f_length, .int f_at, .int f_faultAt, .ref q_now, .int f_acts, .int f_next, .ref q_row, .ref q_least, .ref q_told, .ref q_ways, .ref q_then, .long f_seed, .ref q_isKept, .ref q_kept])), (q_needs, .inl (cI, 3, .inl f_needs)), (q_persons, .inl (cI, 20, .inl f_persons)), (q_now, .inl (cI, 194, .inl f_now)), (q_ways, .inl (cJ, 124, .inr (.inl w9))), (q_then, .inl (cJ, 124, .inr (.inl w3)))] H → va_D A [(q, .inr (8, [.ref q_readNeeds, .ref q_readPeople, .ref q_readQuarrels, .int f_readR, .int f_readP, .int f_readQ, .ref q_needs, .ref q_persons, .ref q_quarrels, .int f_rooms, .int f_people, .int f_pairs, .ref q_text, .int f_length, .int f_at, .int f_faultAt, .ref q_now, .int f_acts, .int f_next, .ref q_row, .ref q_least, .ref q_told, .ref q_ways, .ref q_then, .long f_seed, .ref q_isKept, .ref q_kept])), (q_needs, .inl (cI, 3, .inl f_needs)), (q_persons, .inl (cI, 20, .inl f_persons)), (q_now, .inl (cI, 194, .inl f_now)), (q_ways, .inl (cJ, 124, .inr (.inl w9))), (q_then, .inl (cJ, 124, .inr (.inl w3)))] → va_S A s.heap H locs → lv_has ls 9 [(0, .ref q), (1, .int y4), (2, .int y5), (3, .int y6)] → W p l e ({ frames := 2, cells := 0, slots := 0, locals := 46 } : Room) s m args below meth c H locs 0 0 Q (F0 m 82 ls [])) → ∀ (nlp : Nat) (w7 : (Nat → Int64)) (y8 : Int32), gg_lpF (fun (s : ((Nat → Int64) × Int32)) => pX8_luck_L31 f_rooms f_people f_needs f_persons f_now w3 y4 y5 y6 s.1 s.2) nlp (w7, y8) = some w9 → ∀ (H : Heap) (locs : List Loc) (ls : Array Slot), va_P D vwCl [(q, .inr (8, [.ref q_readNeeds, .ref q_readPeople, .ref q_readQuarrels, .int f_readR, .int f_readP, .int f_readQ, .ref q_needs, .ref q_persons, .ref q_quarrels, .int f_rooms, .int f_people, .int f_pairs, .ref q_text, .int f_length, .int f_at, .int f_faultAt, .ref q_now, .int f_acts, .int f_next, .ref q_row, .ref q_least, .ref q_told, .ref q_ways, .ref q_then, .long f_seed, .ref q_isKept, .ref q_kept])), (q_needs, .inl (cI, 3, .inl f_needs)), (q_persons, .inl (cI, 20, .inl f_persons)), (q_now, .inl (cI, 194, .inl f_now)), (q_ways, .inl (cJ, 124, .inr (.inl w7))), (q_then, .inl (cJ, 124, .inr (.inl w3)))] H → va_D A [(q, .inr (8, [.ref q_readNeeds, .ref q_readPeople, .ref q_readQuarrels, .int f_readR, .int f_readP, .int f_readQ, .ref q_needs, .ref q_persons, .ref q_quarrels, .int f_rooms, .int f_people, .int f_pairs, .ref q_text, .int f_length, .int f_at, .int f_faultAt, .ref q_now, .int f_acts, .int f_next, .ref q_row, .ref q_least, .ref q_told, .ref q_ways, .ref q_then, .long f_seed, .ref q_isKept, .ref q_kept])), (q_needs, .inl (cI, 3, .inl f_needs)), (q_persons, .inl (cI, 20, .inl f_persons)), (q_now, .inl (cI, 194, .inl f_now)), (q_ways, .inl (cJ, 124, .inr (.inl w7))), (q_then, .inl (cJ, 124, .inr (.inl w3)))] → va_S A s.heap H locs → lv_has ls 9 [(0, .ref q), (1, .int y4), (2, .int y5), (3, .int y6), (4, .int y8)] → W p l e ({ frames := 2, cells := 0, slots := 0, locals := 46 } : Room) s m args below meth c H locs 0 0 Q (F0 m 31 ls []) := by
    intro w3 y4 y5 y6 w9 hE nlp
    induction nlp with
    | zero => intro w7 y8 hf; cases hf
    | succ nlp ih =>
      intro w7 y8 hf H locs ls hP hD hS hl
      obtain ⟨zz, hz, hzE, hzN⟩ := gg_lpF_x hf
      replace hf : pX8_luck_L31 f_rooms f_people f_needs f_persons f_now w3 y4 y5 y6 w7 y8 = some zz := hz
      have J75 : ∀ (w12 : (Nat → Int64)) (y13 : Int32) (s14 : Int32) (s15 : Int64) (H : Heap) (locs : List Loc) (ls : Array Slot), pX8_luck_j75 f_rooms f_people f_needs f_persons f_now w3 y4 y5 y6 w12 y13 s14 s15 = some zz → va_P D vwCl [(q, .inr (8, [.ref q_readNeeds, .ref q_readPeople, .ref q_readQuarrels, .int f_readR, .int f_readP, .int f_readQ, .ref q_needs, .ref q_persons, .ref q_quarrels, .int f_rooms, .int f_people, .int f_pairs, .ref q_text, .int f_length, .int f_at, .int f_faultAt, .ref q_now, .int f_acts, .int f_next, .ref q_row, .ref q_least, .ref q_told, .ref q_ways, .ref q_then, .long f_seed, .ref q_isKept, .ref q_kept])), (q_needs, .inl (cI, 3, .inl f_needs)), (q_persons, .inl (cI, 20, .inl f_persons)), (q_now, .inl (cI, 194, .inl f_now)), (q_ways, .inl (cJ, 124, .inr (.inl w12))), (q_then, .inl (cJ, 124, .inr (.inl w3)))] H → va_D A [(q, .inr (8, [.ref q_readNeeds, .ref q_readPeople, .ref q_readQuarrels, .int f_readR, .int f_readP, .int f_readQ, .ref q_needs, .ref q_persons, .ref q_quarrels, .int f_rooms, .int f_people, .int f_pairs, .ref q_text, .int f_length, .int f_at, .int f_faultAt, .ref q_now, .int f_acts, .int f_next, .ref q_row, .ref q_least, .ref q_told, .ref q_ways, .ref q_then, .long f_seed, .ref q_isKept, .ref q_kept])), (q_needs, .inl (cI, 3, .inl f_needs)), (q_persons, .inl (cI, 20, .inl f_persons)), (q_now, .inl (cI, 194, .inl f_now)), (q_ways, .inl (cJ, 124, .inr (.inl w12))), (q_then, .inl (cJ, 124, .inr (.inl w3)))] → va_S A s.heap H locs → lv_has ls 9 [(0, .ref q), (1, .int y4), (2, .int y5), (3, .int y6), (4, .int y13)] → W p l e ({ frames := 2, cells := 0, slots := 0, locals := 46 } : Room) s m args below meth c H locs 0 0 Q (F0 m 75 ls [.long s15, .int s14, .ref q_ways]) := by
        intro w12 y13 s14 s15 H locs ls hf hP hD hS hl
        unfold pX8_luck_j75 at hf
        refine gg_last (ws' := fun g16 => [(q, .inr (8, [.ref q_readNeeds, .ref q_readPeople, .ref q_readQuarrels, .int f_readR, .int f_readP, .int f_readQ, .ref q_needs, .ref q_persons, .ref q_quarrels, .int f_rooms, .int f_people, .int f_pairs, .ref q_text, .int f_length, .int f_at, .int f_faultAt, .ref q_now, .int f_acts, .int f_next, .ref q_row, .ref q_least, .ref q_told, .ref q_ways, .ref q_then, .long f_seed, .ref q_isKept, .ref q_kept])), (q_needs, .inl (cI, 3, .inl f_needs)), (q_persons, .inl (cI, 20, .inl f_persons)), (q_now, .inl (cI, 194, .inl f_now)), (q_ways, .inl (cJ, 124, .inr (.inl g16))), (q_then, .inl (cJ, 124, .inr (.inl w3)))]) hx hb hK hP hD hS 4 1 rfl rfl dX8_luck_75 (fun _ => rfl) hf (fun g16 H locs hP hD hS hf => ?_)
        refine gg_iinc (cst := (1 : Int32)) (k := 4) (lv' := fun v17 => [(4, .int v17), (0, .ref q), (1, .int y4), (2, .int y5), (3, .int y6)]) hx hb dX8_luck_76 hl rfl (by decide) (by decide) (fun _ => rfl) hf (fun v17 ls hl hf => ?_)
        refine lv_goto (tgt := 31) hx hb dX8_luck_79 (by decide) ?_
        exact ih _ _ (hzN _ (Option.some.inj hf).symm) _ _ _ hP hD hS (lv_sub hl [1, 2, 3, 4, 0] rfl)
      unfold pX8_luck_L31 at hf
      refine lv_iload hx hb dX8_luck_31 (lv_at hl 4 rfl) ?_
      refine lv_bipush (v := (124 : Int32)) hx hb dX8_luck_33 (by decide) ?_
      refine lv_icmp_ge (tgt := 82) hx hb dX8_luck_35 (by decide) (fun hc => ?_) (fun hc => ?_)
      · replace hf := gg_pos hf hc
        have hq := hzE _ (Option.some.inj hf).symm
        cases hq
        exact hE _ _ _ hP hD hS (lv_sub hl [0, 1, 2, 3] rfl)
      · replace hf := gg_neg hf hc
        refine lv_aload_n hx hb dX8_luck_38 rfl (lv_at hl 0 rfl) ?_
        refine gg_get hx hb hts iX8 hown hK hP 0 rfl rfl 22 (by decide) k43 rfl rfl dX8_luck_39 ?_
        refine lv_iload hx hb dX8_luck_42 (lv_at hl 4 rfl) ?_
        refine lv_iload hx hb dX8_luck_44 (lv_at hl 4 rfl) ?_
        refine lv_iconst (v := (4 : Int32)) hx hb dX8_luck_46 (by decide) ?_
        refine lv_aload_n hx hb dX8_luck_47 rfl (lv_at hl 0 rfl) ?_
        refine gg_get hx hb hts iX8 hown hK hP 0 rfl rfl 16 (by decide) k31 rfl rfl dX8_luck_48 ?_
        refine lv_bipush (v := (90 : Int32)) hx hb dX8_luck_51 (by decide) ?_
        refine lv_iload_n hx hb dX8_luck_53 rfl (lv_at hl 1 rfl) ?_
        refine lv_iadd hx hb dX8_luck_54 ?_
        refine gg_iald hx hb hK hP 3 0 rfl rfl dX8_luck_55 hf (fun hf => ?_)
        refine lv_imul hx hb dX8_luck_56 ?_
        refine lv_aload_n hx hb dX8_luck_57 rfl (lv_at hl 0 rfl) ?_
        refine gg_get hx hb hts iX8 hown hK hP 0 rfl rfl 16 (by decide) k31 rfl rfl dX8_luck_58 ?_
        refine lv_bipush (v := (93 : Int32)) hx hb dX8_luck_61 (by decide) ?_
        refine lv_iload_n hx hb dX8_luck_63 rfl (lv_at hl 1 rfl) ?_
        refine lv_iadd hx hb dX8_luck_64 ?_
        refine gg_iald hx hb hK hP 3 0 rfl rfl dX8_luck_65 hf (fun hf => ?_)
        refine lv_iadd hx hb dX8_luck_66 ?_
        refine lv_icmp_ne (tgt := 74) hx hb dX8_luck_67 (by decide) (fun hc => ?_) (fun hc => ?_)
        · replace hf := gg_neg hf hc
          refine lv_lconst (v := (0 : Int64)) hx hb dX8_luck_74 (by decide) ?_
          exact J75 _ _ _ _ _ _ _ hf hP hD hS (lv_sub hl [0, 1, 2, 3, 4] rfl)
        · replace hf := gg_pos hf hc
          refine lv_lconst (v := (1 : Int64)) hx hb dX8_luck_70 (by decide) ?_
          refine lv_goto (tgt := 75) hx hb dX8_luck_71 (by decide) ?_
          exact J75 _ _ _ _ _ _ _ hf hP hD hS (lv_sub hl [0, 1, 2, 3, 4] rfl)
  have L94 : ∀ (w27 : (Nat → Int64)) (y28 : Int32) (y29 : Int32) (y30 : Int32) (y31 : Int32) (w34 : (Nat → Int64)), (∀ (H : Heap) (locs : List Loc) (ls : Array Slot), va_P D vwCl [(q, .inr (8, [.ref q_readNeeds, .ref q_readPeople, .ref q_readQuarrels, .int f_readR, .int f_readP, .int f_readQ, .ref q_needs, .ref q_persons, .ref q_quarrels, .int f_rooms, .int f_people, .int f_pairs, .ref q_text, .int f_length, .int f_at, .int f_faultAt, .ref q_now, .int f_acts, .int f_next, .ref q_row, .ref q_least, .ref q_told, .ref q_ways, .ref q_then, .long f_seed, .ref q_isKept, .ref q_kept])), (q_needs, .inl (cI, 3, .inl f_needs)), (q_persons, .inl (cI, 20, .inl f_persons)), (q_now, .inl (cI, 194, .inl f_now)), (q_ways, .inl (cJ, 124, .inr (.inl w27))), (q_then, .inl (cJ, 124, .inr (.inl w34)))] H → va_D A [(q, .inr (8, [.ref q_readNeeds, .ref q_readPeople, .ref q_readQuarrels, .int f_readR, .int f_readP, .int f_readQ, .ref q_needs, .ref q_persons, .ref q_quarrels, .int f_rooms, .int f_people, .int f_pairs, .ref q_text, .int f_length, .int f_at, .int f_faultAt, .ref q_now, .int f_acts, .int f_next, .ref q_row, .ref q_least, .ref q_told, .ref q_ways, .ref q_then, .long f_seed, .ref q_isKept, .ref q_kept])), (q_needs, .inl (cI, 3, .inl f_needs)), (q_persons, .inl (cI, 20, .inl f_persons)), (q_now, .inl (cI, 194, .inl f_now)), (q_ways, .inl (cJ, 124, .inr (.inl w27))), (q_then, .inl (cJ, 124, .inr (.inl w34)))] → va_S A s.heap H locs → lv_has ls 9 [(0, .ref q), (1, .int y28), (2, .int y29), (3, .int y30), (4, .int y31)] → W p l e ({ frames := 2, cells := 0, slots := 0, locals := 46 } : Room) s m args below meth c H locs 0 0 Q (F0 m 115 ls [])) → ∀ (nlp : Nat) (w32 : (Nat → Int64)) (y33 : Int32), gg_lpF (fun (s : ((Nat → Int64) × Int32)) => pX8_luck_L94 f_rooms f_people f_needs f_persons f_now w27 y28 y29 y30 y31 s.1 s.2) nlp (w32, y33) = some w34 → ∀ (H : Heap) (locs : List Loc) (ls : Array Slot), va_P D vwCl [(q, .inr (8, [.ref q_readNeeds, .ref q_readPeople, .ref q_readQuarrels, .int f_readR, .int f_readP, .int f_readQ, .ref q_needs, .ref q_persons, .ref q_quarrels, .int f_rooms, .int f_people, .int f_pairs, .ref q_text, .int f_length, .int f_at, .int f_faultAt, .ref q_now, .int f_acts, .int f_next, .ref q_row, .ref q_least, .ref q_told, .ref q_ways, .ref q_then, .long f_seed, .ref q_isKept, .ref q_kept])), (q_needs, .inl (cI, 3, .inl f_needs)), (q_persons, .inl (cI, 20, .inl f_persons)), (q_now, .inl (cI, 194, .inl f_now)), (q_ways, .inl (cJ, 124, .inr (.inl w27))), (q_then, .inl (cJ, 124, .inr (.inl w32)))] H → va_D A [(q, .inr (8, [.ref q_readNeeds, .ref q_readPeople, .ref q_readQuarrels, .int f_readR, .int f_readP, .int f_readQ, .ref q_needs, .ref q_persons, .ref q_quarrels, .int f_rooms, .int f_people, .int f_pairs, .ref q_text, .int f_length, .int f_at, .int f_faultAt, .ref q_now, .int f_acts, .int f_next, .ref q_row, .ref q_least, .ref q_told, .ref q_ways, .ref q_then, .long f_seed, .ref q_isKept, .ref q_kept])), (q_needs, .inl (cI, 3, .inl f_needs)), (q_persons, .inl (cI, 20, .inl f_persons)), (q_now, .inl (cI, 194, .inl f_now)), (q_ways, .inl (cJ, 124, .inr (.inl w27))), (q_then, .inl (cJ, 124, .inr (.inl w32)))] → va_S A s.heap H locs → lv_has ls 9 [(0, .ref q), (1, .int y28), (2, .int y29), (3, .int y30), (4, .int y31), (5, .int y33)] → W p l e ({ frames := 2, cells := 0, slots := 0, locals := 46 } : Room) s m args below meth c H locs 0 0 Q (F0 m 94 ls []) := by
    intro w27 y28 y29 y30 y31 w34 hE nlp
    induction nlp with
    | zero => intro w32 y33 hf; cases hf
    | succ nlp ih =>
      intro w32 y33 hf H locs ls hP hD hS hl
      obtain ⟨zz, hz, hzE, hzN⟩ := gg_lpF_x hf
      replace hf : pX8_luck_L94 f_rooms f_people f_needs f_persons f_now w27 y28 y29 y30 y31 w32 y33 = some zz := hz
      unfold pX8_luck_L94 at hf
      refine lv_iload hx hb dX8_luck_94 (lv_at hl 5 rfl) ?_
      refine lv_bipush (v := (124 : Int32)) hx hb dX8_luck_96 (by decide) ?_
      refine lv_icmp_ge (tgt := 115) hx hb dX8_luck_98 (by decide) (fun hc => ?_) (fun hc => ?_)
      · replace hf := gg_pos hf hc
        have hq := hzE _ (Option.some.inj hf).symm
        cases hq
        exact hE _ _ _ hP hD hS (lv_sub hl [0, 1, 2, 3, 4] rfl)
      · replace hf := gg_neg hf hc
        refine lv_aload_n hx hb dX8_luck_101 rfl (lv_at hl 0 rfl) ?_
        refine gg_get hx hb hts iX8 hown hK hP 0 rfl rfl 23 (by decide) k47 rfl rfl dX8_luck_102 ?_
        refine lv_iload hx hb dX8_luck_105 (lv_at hl 5 rfl) ?_
        refine lv_lconst (v := (0 : Int64)) hx hb dX8_luck_107 (by decide) ?_
        refine gg_last (ws' := fun g35 => [(q, .inr (8, [.ref q_readNeeds, .ref q_readPeople, .ref q_readQuarrels, .int f_readR, .int f_readP, .int f_readQ, .ref q_needs, .ref q_persons, .ref q_quarrels, .int f_rooms, .int f_people, .int f_pairs, .ref q_text, .int f_length, .int f_at, .int f_faultAt, .ref q_now, .int f_acts, .int f_next, .ref q_row, .ref q_least, .ref q_told, .ref q_ways, .ref q_then, .long f_seed, .ref q_isKept, .ref q_kept])), (q_needs, .inl (cI, 3, .inl f_needs)), (q_persons, .inl (cI, 20, .inl f_persons)), (q_now, .inl (cI, 194, .inl f_now)), (q_ways, .inl (cJ, 124, .inr (.inl w27))), (q_then, .inl (cJ, 124, .inr (.inl g35)))]) hx hb hK hP hD hS 5 1 rfl rfl dX8_luck_108 (fun _ => rfl) hf (fun g35 H locs hP hD hS hf => ?_)
        refine gg_iinc (cst := (1 : Int32)) (k := 5) (lv' := fun v36 => [(5, .int v36), (0, .ref q), (1, .int y28), (2, .int y29), (3, .int y30), (4, .int y31)]) hx hb dX8_luck_109 hl rfl (by decide) (by decide) (fun _ => rfl) hf (fun v36 ls hl hf => ?_)
        refine lv_goto (tgt := 94) hx hb dX8_luck_112 (by decide) ?_
        exact ih _ _ (hzN _ (Option.some.inj hf).symm) _ _ _ hP hD hS (lv_sub hl [1, 2, 3, 4, 5, 0] rfl)
  have L128 : ∀ (w46 : (Nat → Int64)) (y47 : Int32) (y48 : Int32) (y49 : Int32) (y50 : Int32) (y51 : Int32) (w54 : (Nat → Int64)), (∀ (H : Heap) (locs : List Loc) (ls : Array Slot), va_P D vwCl [(q, .inr (8, [.ref q_readNeeds, .ref q_readPeople, .ref q_readQuarrels, .int f_readR, .int f_readP, .int f_readQ, .ref q_needs, .ref q_persons, .ref q_quarrels, .int f_rooms, .int f_people, .int f_pairs, .ref q_text, .int f_length, .int f_at, .int f_faultAt, .ref q_now, .int f_acts, .int f_next, .ref q_row, .ref q_least, .ref q_told, .ref q_ways, .ref q_then, .long f_seed, .ref q_isKept, .ref q_kept])), (q_needs, .inl (cI, 3, .inl f_needs)), (q_persons, .inl (cI, 20, .inl f_persons)), (q_now, .inl (cI, 194, .inl f_now)), (q_ways, .inl (cJ, 124, .inr (.inl w46))), (q_then, .inl (cJ, 124, .inr (.inl w54)))] H → va_D A [(q, .inr (8, [.ref q_readNeeds, .ref q_readPeople, .ref q_readQuarrels, .int f_readR, .int f_readP, .int f_readQ, .ref q_needs, .ref q_persons, .ref q_quarrels, .int f_rooms, .int f_people, .int f_pairs, .ref q_text, .int f_length, .int f_at, .int f_faultAt, .ref q_now, .int f_acts, .int f_next, .ref q_row, .ref q_least, .ref q_told, .ref q_ways, .ref q_then, .long f_seed, .ref q_isKept, .ref q_kept])), (q_needs, .inl (cI, 3, .inl f_needs)), (q_persons, .inl (cI, 20, .inl f_persons)), (q_now, .inl (cI, 194, .inl f_now)), (q_ways, .inl (cJ, 124, .inr (.inl w46))), (q_then, .inl (cJ, 124, .inr (.inl w54)))] → va_S A s.heap H locs → lv_has ls 9 [(0, .ref q), (1, .int y47), (2, .int y48), (3, .int y49), (4, .int y50), (5, .int y51)] → W p l e ({ frames := 2, cells := 0, slots := 0, locals := 46 } : Room) s m args below meth c H locs 0 0 Q (F0 m 189 ls [])) → ∀ (nlp : Nat) (w52 : (Nat → Int64)) (y53 : Int32), gg_lpF (fun (s : ((Nat → Int64) × Int32)) => pX8_luck_L128 f_rooms f_people f_needs f_persons f_now w46 y47 y48 y49 y50 y51 s.1 s.2) nlp (w52, y53) = some w54 → ∀ (H : Heap) (locs : List Loc) (ls : Array Slot), va_P D vwCl [(q, .inr (8, [.ref q_readNeeds, .ref q_readPeople, .ref q_readQuarrels, .int f_readR, .int f_readP, .int f_readQ, .ref q_needs, .ref q_persons, .ref q_quarrels, .int f_rooms, .int f_people, .int f_pairs, .ref q_text, .int f_length, .int f_at, .int f_faultAt, .ref q_now, .int f_acts, .int f_next, .ref q_row, .ref q_least, .ref q_told, .ref q_ways, .ref q_then, .long f_seed, .ref q_isKept, .ref q_kept])), (q_needs, .inl (cI, 3, .inl f_needs)), (q_persons, .inl (cI, 20, .inl f_persons)), (q_now, .inl (cI, 194, .inl f_now)), (q_ways, .inl (cJ, 124, .inr (.inl w46))), (q_then, .inl (cJ, 124, .inr (.inl w52)))] H → va_D A [(q, .inr (8, [.ref q_readNeeds, .ref q_readPeople, .ref q_readQuarrels, .int f_readR, .int f_readP, .int f_readQ, .ref q_needs, .ref q_persons, .ref q_quarrels, .int f_rooms, .int f_people, .int f_pairs, .ref q_text, .int f_length, .int f_at, .int f_faultAt, .ref q_now, .int f_acts, .int f_next, .ref q_row, .ref q_least, .ref q_told, .ref q_ways, .ref q_then, .long f_seed, .ref q_isKept, .ref q_kept])), (q_needs, .inl (cI, 3, .inl f_needs)), (q_persons, .inl (cI, 20, .inl f_persons)), (q_now, .inl (cI, 194, .inl f_now)), (q_ways, .inl (cJ, 124, .inr (.inl w46))), (q_then, .inl (cJ, 124, .inr (.inl w52)))] → va_S A s.heap H locs → lv_has ls 9 [(0, .ref q), (1, .int y47), (2, .int y48), (3, .int y49), (4, .int y50), (5, .int y51), (6, .int y53)] → W p l e ({ frames := 2, cells := 0, slots := 0, locals := 46 } : Room) s m args below meth c H locs 0 0 Q (F0 m 128 ls []) := by
    intro w46 y47 y48 y49 y50 y51 w54 hE nlp
    induction nlp with
    | zero => intro w52 y53 hf; cases hf
    | succ nlp ih =>
      intro w52 y53 hf H locs ls hP hD hS hl
      obtain ⟨zz, hz, hzE, hzN⟩ := gg_lpF_x hf
      replace hf : pX8_luck_L128 f_rooms f_people f_needs f_persons f_now w46 y47 y48 y49 y50 y51 w52 y53 = some zz := hz
      unfold pX8_luck_L128 at hf
      refine lv_iload hx hb dX8_luck_128 (lv_at hl 6 rfl) ?_
      refine lv_iconst (v := (1 : Int32)) hx hb dX8_luck_130 (by decide) ?_
      refine lv_aload_n hx hb dX8_luck_131 rfl (lv_at hl 0 rfl) ?_
      refine gg_get hx hb hts iX8 hown hK hP 0 rfl rfl 10 (by decide) k111 rfl rfl dX8_luck_132 ?_
      refine lv_ishl hx hb dX8_luck_135 ?_
      refine lv_icmp_ge (tgt := 189) hx hb dX8_luck_136 (by decide) (fun hc => ?_) (fun hc => ?_)
      · replace hf := gg_pos hf hc
        have hq := hzE _ (Option.some.inj hf).symm
        cases hq
        exact hE _ _ _ hP hD hS (lv_sub hl [0, 1, 2, 3, 4, 5] rfl)
      · replace hf := gg_neg hf hc
        refine lv_aload_n hx hb dX8_luck_139 rfl (lv_at hl 0 rfl) ?_
        refine gg_get hx hb hts iX8 hown hK hP 0 rfl rfl 22 (by decide) k43 rfl rfl dX8_luck_140 ?_
        refine lv_iload hx hb dX8_luck_143 (lv_at hl 5 rfl) ?_
        refine gg_lald hx hb hK hP 4 1 rfl rfl dX8_luck_145 hf (fun hf => ?_)
        refine lv_lconst (v := (0 : Int64)) hx hb dX8_luck_146 (by decide) ?_
        refine W.lcmp hx hb dX8_luck_147 ?_
        refine lv_if_le (tgt := 189) hx hb dX8_luck_148 (by decide) (fun hc => ?_) (fun hc => ?_)
        · replace hf := gg_pos hf hc
          have hq := hzE _ (Option.some.inj hf).symm
          cases hq
          exact hE _ _ _ hP hD hS (lv_sub hl [0, 1, 2, 3, 4, 5] rfl)
        · replace hf := gg_neg hf hc
          refine lv_aload_n hx hb dX8_luck_151 rfl (lv_at hl 0 rfl) ?_
          refine gg_get hx hb hts iX8 hown hK hP 0 rfl rfl 23 (by decide) k47 rfl rfl dX8_luck_152 ?_
          refine lv_aload_n hx hb dX8_luck_155 rfl (lv_at hl 0 rfl) ?_
          refine lv_iload_n hx hb dX8_luck_156 rfl (lv_at hl 1 rfl) ?_
          refine lv_iload hx hb dX8_luck_157 (lv_at hl 5 rfl) ?_
          refine lv_iload hx hb dX8_luck_159 (lv_at hl 6 rfl) ?_
          obtain ⟨r56, hu, hf⟩ := gg_c1_x hf
          refine gg_callV (wr := [(q_now, .inl (cI, 194, .inl f_now)), (q_ways, .inl (cJ, 124, .inr (.inl w46))), (q_then, .inl (cJ, 124, .inr (.inl w52)))]) (w2 := fun _ => [(q, .inr (8, [.ref q_readNeeds, .ref q_readPeople, .ref q_readQuarrels, .int f_readR, .int f_readP, .int f_readQ, .ref q_needs, .ref q_persons, .ref q_quarrels, .int f_rooms, .int f_people, .int f_pairs, .ref q_text, .int f_length, .int f_at, .int f_faultAt, .ref q_now, .int f_acts, .int f_next, .ref q_row, .ref q_least, .ref q_told, .ref q_ways, .ref q_then, .long f_seed, .ref q_isKept, .ref q_kept])), (q_needs, .inl (cI, 3, .inl f_needs)), (q_persons, .inl (cI, 20, .inl f_persons)), (q_now, .inl (cI, 194, .inl f_now)), (q_ways, .inl (cJ, 124, .inr (.inl w46))), (q_then, .inl (cJ, 124, .inr (.inl w52)))]) ⟨hx, hb, hml, hown, hts⟩ (mX8_behind l D cI cJ cZ cR q q_needs q_persons q_readNeeds q_readPeople q_readQuarrels q_quarrels q_text q_now q_row q_least q_told q_ways q_then q_isKept q_kept f_readR f_readP f_readQ f_rooms f_people f_pairs f_length f_at f_faultAt f_acts f_next f_seed f_needs f_persons _ _ _ r56 hu) (cwV 3 hts gX8_luck_X8_behind rfl rfl rfl (by decide +kernel) ⟨Nat.le_of_ble_eq_true rfl, Nat.le_of_ble_eq_true rfl⟩) hK hP hD hS hA 0 rfl rfl rfl rfl hl.1 rfl (Nat.le_of_ble_eq_true rfl) dX8_luck_161 ⟨Nat.le_of_ble_eq_true rfl, Nat.le_of_ble_eq_true rfl⟩ [0, 1, 2] [3, 4, 5] rfl rfl rfl rfl rfl [3, 4, 5, 0, 1, 2] rfl (fun _ => rfl) (fun _ H locs hP hD hS => ?_)
          refine gg_st_i ?_
          refine lv_dup2_11 hx hb dX8_luck_164 rfl rfl ?_
          refine gg_lald hx hb hK hP 5 1 rfl rfl dX8_luck_165 hf (fun hf => ?_)
          refine lv_aload_n hx hb dX8_luck_166 rfl (lv_at hl 0 rfl) ?_
          refine gg_get hx hb hts iX8 hown hK hP 0 rfl rfl 22 (by decide) k43 rfl rfl dX8_luck_167 ?_
          refine lv_iload hx hb dX8_luck_170 (lv_at hl 5 rfl) ?_
          refine gg_lald hx hb hK hP 4 1 rfl rfl dX8_luck_172 hf (fun hf => ?_)
          refine lv_aload_n hx hb dX8_luck_173 rfl (lv_at hl 0 rfl) ?_
          refine lv_iload_n hx hb dX8_luck_174 rfl (lv_at hl 1 rfl) ?_
          refine lv_iload hx hb dX8_luck_175 (lv_at hl 6 rfl) ?_
          obtain ⟨r59, hu, hf⟩ := gg_c1_x hf
          refine gg_callV (wr := [(q_needs, .inl (cI, 3, .inl f_needs)), (q_now, .inl (cI, 194, .inl f_now)), (q_ways, .inl (cJ, 124, .inr (.inl w46))), (q_then, .inl (cJ, 124, .inr (.inl w52)))]) (w2 := fun _ => [(q, .inr (8, [.ref q_readNeeds, .ref q_readPeople, .ref q_readQuarrels, .int f_readR, .int f_readP, .int f_readQ, .ref q_needs, .ref q_persons, .ref q_quarrels, .int f_rooms, .int f_people, .int f_pairs, .ref q_text, .int f_length, .int f_at, .int f_faultAt, .ref q_now, .int f_acts, .int f_next, .ref q_row, .ref q_least, .ref q_told, .ref q_ways, .ref q_then, .long f_seed, .ref q_isKept, .ref q_kept])), (q_needs, .inl (cI, 3, .inl f_needs)), (q_persons, .inl (cI, 20, .inl f_persons)), (q_now, .inl (cI, 194, .inl f_now)), (q_ways, .inl (cJ, 124, .inr (.inl w46))), (q_then, .inl (cJ, 124, .inr (.inl w52)))]) ⟨hx, hb, hml, hown, hts⟩ (mX8_partsOf l D cI cJ cZ cR q q_persons q_readNeeds q_readPeople q_readQuarrels q_needs q_quarrels q_text q_now q_row q_least q_told q_ways q_then q_isKept q_kept f_readR f_readP f_readQ f_rooms f_people f_pairs f_length f_at f_faultAt f_acts f_next f_seed f_persons _ _ r59 hu) (cwV 2 hts gX8_luck_X8_partsOf rfl rfl rfl (by decide +kernel) ⟨Nat.le_of_ble_eq_true rfl, Nat.le_of_ble_eq_true rfl⟩) hK hP hD hS hA 0 rfl rfl rfl rfl hl.1 rfl (Nat.le_of_ble_eq_true rfl) dX8_luck_177 ⟨Nat.le_of_ble_eq_true rfl, Nat.le_of_ble_eq_true rfl⟩ [0, 2] [1, 3, 4, 5] rfl rfl rfl rfl rfl [4, 0, 5, 1, 2, 3] rfl (fun _ => rfl) (fun _ H locs hP hD hS => ?_)
          refine gg_st_l ?_
          refine lv_lmul hx hb dX8_luck_180 ?_
          refine lv_ladd hx hb dX8_luck_181 ?_
          refine gg_last (ws' := fun g60 => [(q, .inr (8, [.ref q_readNeeds, .ref q_readPeople, .ref q_readQuarrels, .int f_readR, .int f_readP, .int f_readQ, .ref q_needs, .ref q_persons, .ref q_quarrels, .int f_rooms, .int f_people, .int f_pairs, .ref q_text, .int f_length, .int f_at, .int f_faultAt, .ref q_now, .int f_acts, .int f_next, .ref q_row, .ref q_least, .ref q_told, .ref q_ways, .ref q_then, .long f_seed, .ref q_isKept, .ref q_kept])), (q_needs, .inl (cI, 3, .inl f_needs)), (q_persons, .inl (cI, 20, .inl f_persons)), (q_now, .inl (cI, 194, .inl f_now)), (q_ways, .inl (cJ, 124, .inr (.inl w46))), (q_then, .inl (cJ, 124, .inr (.inl g60)))]) hx hb hK hP hD hS 5 1 rfl rfl dX8_luck_182 (fun _ => rfl) hf (fun g60 H locs hP hD hS hf => ?_)
          refine gg_iinc (cst := (1 : Int32)) (k := 6) (lv' := fun v61 => [(6, .int v61), (0, .ref q), (1, .int y47), (2, .int y48), (3, .int y49), (4, .int y50), (5, .int y51)]) hx hb dX8_luck_183 hl rfl (by decide) (by decide) (fun _ => rfl) hf (fun v61 ls hl hf => ?_)
          refine lv_goto (tgt := 128) hx hb dX8_luck_186 (by decide) ?_
          exact ih _ _ (hzN _ (Option.some.inj hf).symm) _ _ _ hP hD hS (lv_sub hl [1, 2, 3, 4, 5, 6, 0] rfl)
  have L118 : ∀ (w38 : (Nat → Int64)) (y39 : Int32) (y40 : Int32) (y41 : Int32) (y42 : Int32) (w45 : (Nat → Int64)), (∀ (H : Heap) (locs : List Loc) (ls : Array Slot), va_P D vwCl [(q, .inr (8, [.ref q_readNeeds, .ref q_readPeople, .ref q_readQuarrels, .int f_readR, .int f_readP, .int f_readQ, .ref q_needs, .ref q_persons, .ref q_quarrels, .int f_rooms, .int f_people, .int f_pairs, .ref q_text, .int f_length, .int f_at, .int f_faultAt, .ref q_now, .int f_acts, .int f_next, .ref q_row, .ref q_least, .ref q_told, .ref q_ways, .ref q_then, .long f_seed, .ref q_isKept, .ref q_kept])), (q_needs, .inl (cI, 3, .inl f_needs)), (q_persons, .inl (cI, 20, .inl f_persons)), (q_now, .inl (cI, 194, .inl f_now)), (q_ways, .inl (cJ, 124, .inr (.inl w38))), (q_then, .inl (cJ, 124, .inr (.inl w45)))] H → va_D A [(q, .inr (8, [.ref q_readNeeds, .ref q_readPeople, .ref q_readQuarrels, .int f_readR, .int f_readP, .int f_readQ, .ref q_needs, .ref q_persons, .ref q_quarrels, .int f_rooms, .int f_people, .int f_pairs, .ref q_text, .int f_length, .int f_at, .int f_faultAt, .ref q_now, .int f_acts, .int f_next, .ref q_row, .ref q_least, .ref q_told, .ref q_ways, .ref q_then, .long f_seed, .ref q_isKept, .ref q_kept])), (q_needs, .inl (cI, 3, .inl f_needs)), (q_persons, .inl (cI, 20, .inl f_persons)), (q_now, .inl (cI, 194, .inl f_now)), (q_ways, .inl (cJ, 124, .inr (.inl w38))), (q_then, .inl (cJ, 124, .inr (.inl w45)))] → va_S A s.heap H locs → lv_has ls 9 [(0, .ref q), (1, .int y39), (2, .int y40), (3, .int y41), (4, .int y42)] → W p l e ({ frames := 2, cells := 0, slots := 0, locals := 46 } : Room) s m args below meth c H locs 0 0 Q (F0 m 195 ls [])) → ∀ (nlp : Nat) (w43 : (Nat → Int64)) (y44 : Int32), gg_lpF (fun (s : ((Nat → Int64) × Int32)) => pX8_luck_L118 f_rooms f_people f_needs f_persons f_now w38 y39 y40 y41 y42 s.1 s.2) nlp (w43, y44) = some w45 → ∀ (H : Heap) (locs : List Loc) (ls : Array Slot), va_P D vwCl [(q, .inr (8, [.ref q_readNeeds, .ref q_readPeople, .ref q_readQuarrels, .int f_readR, .int f_readP, .int f_readQ, .ref q_needs, .ref q_persons, .ref q_quarrels, .int f_rooms, .int f_people, .int f_pairs, .ref q_text, .int f_length, .int f_at, .int f_faultAt, .ref q_now, .int f_acts, .int f_next, .ref q_row, .ref q_least, .ref q_told, .ref q_ways, .ref q_then, .long f_seed, .ref q_isKept, .ref q_kept])), (q_needs, .inl (cI, 3, .inl f_needs)), (q_persons, .inl (cI, 20, .inl f_persons)), (q_now, .inl (cI, 194, .inl f_now)), (q_ways, .inl (cJ, 124, .inr (.inl w38))), (q_then, .inl (cJ, 124, .inr (.inl w43)))] H → va_D A [(q, .inr (8, [.ref q_readNeeds, .ref q_readPeople, .ref q_readQuarrels, .int f_readR, .int f_readP, .int f_readQ, .ref q_needs, .ref q_persons, .ref q_quarrels, .int f_rooms, .int f_people, .int f_pairs, .ref q_text, .int f_length, .int f_at, .int f_faultAt, .ref q_now, .int f_acts, .int f_next, .ref q_row, .ref q_least, .ref q_told, .ref q_ways, .ref q_then, .long f_seed, .ref q_isKept, .ref q_kept])), (q_needs, .inl (cI, 3, .inl f_needs)), (q_persons, .inl (cI, 20, .inl f_persons)), (q_now, .inl (cI, 194, .inl f_now)), (q_ways, .inl (cJ, 124, .inr (.inl w38))), (q_then, .inl (cJ, 124, .inr (.inl w43)))] → va_S A s.heap H locs → lv_has ls 9 [(0, .ref q), (1, .int y39), (2, .int y40), (3, .int y41), (4, .int y42), (5, .int y44)] → W p l e ({ frames := 2, cells := 0, slots := 0, locals := 46 } : Room) s m args below meth c H locs 0 0 Q (F0 m 118 ls []) := by
    intro w38 y39 y40 y41 y42 w45 hE nlp
    induction nlp with
    | zero => intro w43 y44 hf; cases hf
    | succ nlp ih =>
      intro w43 y44 hf H locs ls hP hD hS hl
      obtain ⟨zz, hz, hzE, hzN⟩ := gg_lpF_x hf
      replace hf : pX8_luck_L118 f_rooms f_people f_needs f_persons f_now w38 y39 y40 y41 y42 w43 y44 = some zz := hz
      unfold pX8_luck_L118 at hf
      refine lv_iload hx hb dX8_luck_118 (lv_at hl 5 rfl) ?_
      refine lv_bipush (v := (124 : Int32)) hx hb dX8_luck_120 (by decide) ?_
      refine lv_icmp_ge (tgt := 195) hx hb dX8_luck_122 (by decide) (fun hc => ?_) (fun hc => ?_)
      · replace hf := gg_pos hf hc
        have hq := hzE _ (Option.some.inj hf).symm
        cases hq
        exact hE _ _ _ hP hD hS (lv_sub hl [0, 1, 2, 3, 4] rfl)
      · replace hf := gg_neg hf hc
        refine lv_iconst (v := (0 : Int32)) hx hb dX8_luck_125 (by decide) ?_
        refine lv_istore (lv' := [(6, .int (0 : Int32)), (0, .ref q), (1, .int y39), (2, .int y40), (3, .int y41), (4, .int y42), (5, .int y44)]) hx hb dX8_luck_126 hl (by decide) rfl (fun ls hl => ?_)
        obtain ⟨w62, hlp, hf⟩ := gg_c1_x hf
        obtain ⟨nlp, hlp⟩ := gg_lp_x hlp
        refine L128 _ _ _ _ _ _ _ (fun H locs ls hP hD hS hl => ?_) nlp _ _ hlp _ _ _ hP hD hS (lv_sub hl [1, 2, 3, 4, 5, 6, 0] rfl)
        refine gg_iinc (cst := (1 : Int32)) (k := 5) (lv' := fun v63 => [(5, .int v63), (0, .ref q), (1, .int y39), (2, .int y40), (3, .int y41), (4, .int y42)]) hx hb dX8_luck_189 hl rfl (by decide) (by decide) (fun _ => rfl) hf (fun v63 ls hl hf => ?_)
        refine lv_goto (tgt := 118) hx hb dX8_luck_192 (by decide) ?_
        exact ih _ _ (hzN _ (Option.some.inj hf).symm) _ _ _ hP hD hS (lv_sub hl [1, 2, 3, 4, 5, 0] rfl)
  have L198 : ∀ (w65 : (Nat → Int64)) (y66 : Int32) (y67 : Int32) (y68 : Int32) (y69 : Int32) (w72 : (Nat → Int64)), (∀ (H : Heap) (locs : List Loc) (ls : Array Slot), va_P D vwCl [(q, .inr (8, [.ref q_readNeeds, .ref q_readPeople, .ref q_readQuarrels, .int f_readR, .int f_readP, .int f_readQ, .ref q_needs, .ref q_persons, .ref q_quarrels, .int f_rooms, .int f_people, .int f_pairs, .ref q_text, .int f_length, .int f_at, .int f_faultAt, .ref q_now, .int f_acts, .int f_next, .ref q_row, .ref q_least, .ref q_told, .ref q_ways, .ref q_then, .long f_seed, .ref q_isKept, .ref q_kept])), (q_needs, .inl (cI, 3, .inl f_needs)), (q_persons, .inl (cI, 20, .inl f_persons)), (q_now, .inl (cI, 194, .inl f_now)), (q_ways, .inl (cJ, 124, .inr (.inl w72))), (q_then, .inl (cJ, 124, .inr (.inl w65)))] H → va_D A [(q, .inr (8, [.ref q_readNeeds, .ref q_readPeople, .ref q_readQuarrels, .int f_readR, .int f_readP, .int f_readQ, .ref q_needs, .ref q_persons, .ref q_quarrels, .int f_rooms, .int f_people, .int f_pairs, .ref q_text, .int f_length, .int f_at, .int f_faultAt, .ref q_now, .int f_acts, .int f_next, .ref q_row, .ref q_least, .ref q_told, .ref q_ways, .ref q_then, .long f_seed, .ref q_isKept, .ref q_kept])), (q_needs, .inl (cI, 3, .inl f_needs)), (q_persons, .inl (cI, 20, .inl f_persons)), (q_now, .inl (cI, 194, .inl f_now)), (q_ways, .inl (cJ, 124, .inr (.inl w72))), (q_then, .inl (cJ, 124, .inr (.inl w65)))] → va_S A s.heap H locs → lv_has ls 9 [(0, .ref q), (1, .int y66), (2, .int y67), (3, .int y68), (4, .int y69)] → W p l e ({ frames := 2, cells := 0, slots := 0, locals := 46 } : Room) s m args below meth c H locs 0 0 Q (F0 m 225 ls [])) → ∀ (nlp : Nat) (w70 : (Nat → Int64)) (y71 : Int32), gg_lpF (fun (s : ((Nat → Int64) × Int32)) => pX8_luck_L198 f_rooms f_people f_needs f_persons f_now w65 y66 y67 y68 y69 s.1 s.2) nlp (w70, y71) = some w72 → ∀ (H : Heap) (locs : List Loc) (ls : Array Slot), va_P D vwCl [(q, .inr (8, [.ref q_readNeeds, .ref q_readPeople, .ref q_readQuarrels, .int f_readR, .int f_readP, .int f_readQ, .ref q_needs, .ref q_persons, .ref q_quarrels, .int f_rooms, .int f_people, .int f_pairs, .ref q_text, .int f_length, .int f_at, .int f_faultAt, .ref q_now, .int f_acts, .int f_next, .ref q_row, .ref q_least, .ref q_told, .ref q_ways, .ref q_then, .long f_seed, .ref q_isKept, .ref q_kept])), (q_needs, .inl (cI, 3, .inl f_needs)), (q_persons, .inl (cI, 20, .inl f_persons)), (q_now, .inl (cI, 194, .inl f_now)), (q_ways, .inl (cJ, 124, .inr (.inl w70))), (q_then, .inl (cJ, 124, .inr (.inl w65)))] H → va_D A [(q, .inr (8, [.ref q_readNeeds, .ref q_readPeople, .ref q_readQuarrels, .int f_readR, .int f_readP, .int f_readQ, .ref q_needs, .ref q_persons, .ref q_quarrels, .int f_rooms, .int f_people, .int f_pairs, .ref q_text, .int f_length, .int f_at, .int f_faultAt, .ref q_now, .int f_acts, .int f_next, .ref q_row, .ref q_least, .ref q_told, .ref q_ways, .ref q_then, .long f_seed, .ref q_isKept, .ref q_kept])), (q_needs, .inl (cI, 3, .inl f_needs)), (q_persons, .inl (cI, 20, .inl f_persons)), (q_now, .inl (cI, 194, .inl f_now)), (q_ways, .inl (cJ, 124, .inr (.inl w70))), (q_then, .inl (cJ, 124, .inr (.inl w65)))] → va_S A s.heap H locs → lv_has ls 9 [(0, .ref q), (1, .int y66), (2, .int y67), (3, .int y68), (4, .int y69), (5, .int y71)] → W p l e ({ frames := 2, cells := 0, slots := 0, locals := 46 } : Room) s m args below meth c H locs 0 0 Q (F0 m 198 ls []) := by
    intro w65 y66 y67 y68 y69 w72 hE nlp
    induction nlp with
    | zero => intro w70 y71 hf; cases hf
    | succ nlp ih =>
      intro w70 y71 hf H locs ls hP hD hS hl
      obtain ⟨zz, hz, hzE, hzN⟩ := gg_lpF_x hf
      replace hf : pX8_luck_L198 f_rooms f_people f_needs f_persons f_now w65 y66 y67 y68 y69 w70 y71 = some zz := hz
      unfold pX8_luck_L198 at hf
      refine lv_iload hx hb dX8_luck_198 (lv_at hl 5 rfl) ?_
      refine lv_bipush (v := (124 : Int32)) hx hb dX8_luck_200 (by decide) ?_
      refine lv_icmp_ge (tgt := 225) hx hb dX8_luck_202 (by decide) (fun hc => ?_) (fun hc => ?_)
      · replace hf := gg_pos hf hc
        have hq := hzE _ (Option.some.inj hf).symm
        cases hq
        exact hE _ _ _ hP hD hS (lv_sub hl [0, 1, 2, 3, 4] rfl)
      · replace hf := gg_neg hf hc
        refine lv_aload_n hx hb dX8_luck_205 rfl (lv_at hl 0 rfl) ?_
        refine gg_get hx hb hts iX8 hown hK hP 0 rfl rfl 22 (by decide) k43 rfl rfl dX8_luck_206 ?_
        refine lv_iload hx hb dX8_luck_209 (lv_at hl 5 rfl) ?_
        refine lv_aload_n hx hb dX8_luck_211 rfl (lv_at hl 0 rfl) ?_
        refine gg_get hx hb hts iX8 hown hK hP 0 rfl rfl 23 (by decide) k47 rfl rfl dX8_luck_212 ?_
        refine lv_iload hx hb dX8_luck_215 (lv_at hl 5 rfl) ?_
        refine gg_lald hx hb hK hP 5 1 rfl rfl dX8_luck_217 hf (fun hf => ?_)
        refine gg_last (ws' := fun g74 => [(q, .inr (8, [.ref q_readNeeds, .ref q_readPeople, .ref q_readQuarrels, .int f_readR, .int f_readP, .int f_readQ, .ref q_needs, .ref q_persons, .ref q_quarrels, .int f_rooms, .int f_people, .int f_pairs, .ref q_text, .int f_length, .int f_at, .int f_faultAt, .ref q_now, .int f_acts, .int f_next, .ref q_row, .ref q_least, .ref q_told, .ref q_ways, .ref q_then, .long f_seed, .ref q_isKept, .ref q_kept])), (q_needs, .inl (cI, 3, .inl f_needs)), (q_persons, .inl (cI, 20, .inl f_persons)), (q_now, .inl (cI, 194, .inl f_now)), (q_ways, .inl (cJ, 124, .inr (.inl g74))), (q_then, .inl (cJ, 124, .inr (.inl w65)))]) hx hb hK hP hD hS 4 1 rfl rfl dX8_luck_218 (fun _ => rfl) hf (fun g74 H locs hP hD hS hf => ?_)
        refine gg_iinc (cst := (1 : Int32)) (k := 5) (lv' := fun v75 => [(5, .int v75), (0, .ref q), (1, .int y66), (2, .int y67), (3, .int y68), (4, .int y69)]) hx hb dX8_luck_219 hl rfl (by decide) (by decide) (fun _ => rfl) hf (fun v75 ls hl hf => ?_)
        refine lv_goto (tgt := 198) hx hb dX8_luck_222 (by decide) ?_
        exact ih _ _ (hzN _ (Option.some.inj hf).symm) _ _ _ hP hD hS (lv_sub hl [1, 2, 3, 4, 5, 0] rfl)
  have L85 : ∀ (y19 : Int32) (y20 : Int32) (y21 : Int32) (w25 : (Nat → Int64)) (w26 : (Nat → Int64)), (∀ (H : Heap) (locs : List Loc) (ls : Array Slot), va_P D vwCl [(q, .inr (8, [.ref q_readNeeds, .ref q_readPeople, .ref q_readQuarrels, .int f_readR, .int f_readP, .int f_readQ, .ref q_needs, .ref q_persons, .ref q_quarrels, .int f_rooms, .int f_people, .int f_pairs, .ref q_text, .int f_length, .int f_at, .int f_faultAt, .ref q_now, .int f_acts, .int f_next, .ref q_row, .ref q_least, .ref q_told, .ref q_ways, .ref q_then, .long f_seed, .ref q_isKept, .ref q_kept])), (q_needs, .inl (cI, 3, .inl f_needs)), (q_persons, .inl (cI, 20, .inl f_persons)), (q_now, .inl (cI, 194, .inl f_now)), (q_ways, .inl (cJ, 124, .inr (.inl w25))), (q_then, .inl (cJ, 124, .inr (.inl w26)))] H → va_D A [(q, .inr (8, [.ref q_readNeeds, .ref q_readPeople, .ref q_readQuarrels, .int f_readR, .int f_readP, .int f_readQ, .ref q_needs, .ref q_persons, .ref q_quarrels, .int f_rooms, .int f_people, .int f_pairs, .ref q_text, .int f_length, .int f_at, .int f_faultAt, .ref q_now, .int f_acts, .int f_next, .ref q_row, .ref q_least, .ref q_told, .ref q_ways, .ref q_then, .long f_seed, .ref q_isKept, .ref q_kept])), (q_needs, .inl (cI, 3, .inl f_needs)), (q_persons, .inl (cI, 20, .inl f_persons)), (q_now, .inl (cI, 194, .inl f_now)), (q_ways, .inl (cJ, 124, .inr (.inl w25))), (q_then, .inl (cJ, 124, .inr (.inl w26)))] → va_S A s.heap H locs → lv_has ls 9 [(0, .ref q), (1, .int y19), (3, .int y21)] → W p l e ({ frames := 2, cells := 0, slots := 0, locals := 46 } : Room) s m args below meth c H locs 0 0 Q (F0 m 231 ls [])) → ∀ (nlp : Nat) (w22 : (Nat → Int64)) (w23 : (Nat → Int64)) (y24 : Int32), gg_lpF (fun (s : ((Nat → Int64) × (Nat → Int64) × Int32)) => pX8_luck_L85 f_rooms f_people f_needs f_persons f_now y19 y20 y21 s.1 s.2.1 s.2.2) nlp (w22, w23, y24) = some (w25, w26) → ∀ (H : Heap) (locs : List Loc) (ls : Array Slot), va_P D vwCl [(q, .inr (8, [.ref q_readNeeds, .ref q_readPeople, .ref q_readQuarrels, .int f_readR, .int f_readP, .int f_readQ, .ref q_needs, .ref q_persons, .ref q_quarrels, .int f_rooms, .int f_people, .int f_pairs, .ref q_text, .int f_length, .int f_at, .int f_faultAt, .ref q_now, .int f_acts, .int f_next, .ref q_row, .ref q_least, .ref q_told, .ref q_ways, .ref q_then, .long f_seed, .ref q_isKept, .ref q_kept])), (q_needs, .inl (cI, 3, .inl f_needs)), (q_persons, .inl (cI, 20, .inl f_persons)), (q_now, .inl (cI, 194, .inl f_now)), (q_ways, .inl (cJ, 124, .inr (.inl w22))), (q_then, .inl (cJ, 124, .inr (.inl w23)))] H → va_D A [(q, .inr (8, [.ref q_readNeeds, .ref q_readPeople, .ref q_readQuarrels, .int f_readR, .int f_readP, .int f_readQ, .ref q_needs, .ref q_persons, .ref q_quarrels, .int f_rooms, .int f_people, .int f_pairs, .ref q_text, .int f_length, .int f_at, .int f_faultAt, .ref q_now, .int f_acts, .int f_next, .ref q_row, .ref q_least, .ref q_told, .ref q_ways, .ref q_then, .long f_seed, .ref q_isKept, .ref q_kept])), (q_needs, .inl (cI, 3, .inl f_needs)), (q_persons, .inl (cI, 20, .inl f_persons)), (q_now, .inl (cI, 194, .inl f_now)), (q_ways, .inl (cJ, 124, .inr (.inl w22))), (q_then, .inl (cJ, 124, .inr (.inl w23)))] → va_S A s.heap H locs → lv_has ls 9 [(0, .ref q), (1, .int y19), (2, .int y20), (3, .int y21), (4, .int y24)] → W p l e ({ frames := 2, cells := 0, slots := 0, locals := 46 } : Room) s m args below meth c H locs 0 0 Q (F0 m 85 ls []) := by
    intro y19 y20 y21 w25 w26 hE nlp
    induction nlp with
    | zero => intro w22 w23 y24 hf; cases hf
    | succ nlp ih =>
      intro w22 w23 y24 hf H locs ls hP hD hS hl
      obtain ⟨zz, hz, hzE, hzN⟩ := gg_lpF_x hf
      replace hf : pX8_luck_L85 f_rooms f_people f_needs f_persons f_now y19 y20 y21 w22 w23 y24 = some zz := hz
      unfold pX8_luck_L85 at hf
      refine lv_iload hx hb dX8_luck_85 (lv_at hl 4 rfl) ?_
      refine lv_iload_n hx hb dX8_luck_87 rfl (lv_at hl 2 rfl) ?_
      refine lv_icmp_ge (tgt := 231) hx hb dX8_luck_88 (by decide) (fun hc => ?_) (fun hc => ?_)
      · replace hf := gg_pos hf hc
        have hq := hzE _ (Option.some.inj hf).symm
        cases hq
        exact hE _ _ _ hP hD hS (lv_sub hl [0, 1, 3] rfl)
      · replace hf := gg_neg hf hc
        refine lv_iconst (v := (0 : Int32)) hx hb dX8_luck_91 (by decide) ?_
        refine lv_istore (lv' := [(5, .int (0 : Int32)), (0, .ref q), (1, .int y19), (2, .int y20), (3, .int y21), (4, .int y24)]) hx hb dX8_luck_92 hl (by decide) rfl (fun ls hl => ?_)
        obtain ⟨w37, hlp, hf⟩ := gg_c1_x hf
        obtain ⟨nlp, hlp⟩ := gg_lp_x hlp
        refine L94 _ _ _ _ _ _ (fun H locs ls hP hD hS hl => ?_) nlp _ _ hlp _ _ _ hP hD hS (lv_sub hl [1, 2, 3, 4, 5, 0] rfl)
        refine lv_iconst (v := (0 : Int32)) hx hb dX8_luck_115 (by decide) ?_
        refine lv_istore (lv' := [(5, .int (0 : Int32)), (0, .ref q), (1, .int y19), (2, .int y20), (3, .int y21), (4, .int y24)]) hx hb dX8_luck_116 hl (by decide) rfl (fun ls hl => ?_)
        obtain ⟨w64, hlp, hf⟩ := gg_c1_x hf
        obtain ⟨nlp, hlp⟩ := gg_lp_x hlp
        refine L118 _ _ _ _ _ _ (fun H locs ls hP hD hS hl => ?_) nlp _ _ hlp _ _ _ hP hD hS (lv_sub hl [1, 2, 3, 4, 5, 0] rfl)
        refine lv_iconst (v := (0 : Int32)) hx hb dX8_luck_195 (by decide) ?_
        refine lv_istore (lv' := [(5, .int (0 : Int32)), (0, .ref q), (1, .int y19), (2, .int y20), (3, .int y21), (4, .int y24)]) hx hb dX8_luck_196 hl (by decide) rfl (fun ls hl => ?_)
        obtain ⟨w76, hlp, hf⟩ := gg_c1_x hf
        obtain ⟨nlp, hlp⟩ := gg_lp_x hlp
        refine L198 _ _ _ _ _ _ (fun H locs ls hP hD hS hl => ?_) nlp _ _ hlp _ _ _ hP hD hS (lv_sub hl [1, 2, 3, 4, 5, 0] rfl)
        refine gg_iinc (cst := (1 : Int32)) (k := 4) (lv' := fun v77 => [(4, .int v77), (0, .ref q), (1, .int y19), (2, .int y20), (3, .int y21)]) hx hb dX8_luck_225 hl rfl (by decide) (by decide) (fun _ => rfl) hf (fun v77 ls hl hf => ?_)
        refine lv_goto (tgt := 85) hx hb dX8_luck_228 (by decide) ?_
        exact ih _ _ _ (hzN _ (Option.some.inj hf).symm) _ _ _ hP hD hS (lv_sub hl [1, 2, 3, 4, 0] rfl)
  have L240 : ∀ (w80 : (Nat → Int64)) (w81 : (Nat → Int64)) (y82 : Int32) (y83 : Int32) (y87 : Int64) (y88 : Int64), (∀ (H : Heap) (locs : List Loc) (ls : Array Slot), va_P D vwCl [(q, .inr (8, [.ref q_readNeeds, .ref q_readPeople, .ref q_readQuarrels, .int f_readR, .int f_readP, .int f_readQ, .ref q_needs, .ref q_persons, .ref q_quarrels, .int f_rooms, .int f_people, .int f_pairs, .ref q_text, .int f_length, .int f_at, .int f_faultAt, .ref q_now, .int f_acts, .int f_next, .ref q_row, .ref q_least, .ref q_told, .ref q_ways, .ref q_then, .long f_seed, .ref q_isKept, .ref q_kept])), (q_needs, .inl (cI, 3, .inl f_needs)), (q_persons, .inl (cI, 20, .inl f_persons)), (q_now, .inl (cI, 194, .inl f_now)), (q_ways, .inl (cJ, 124, .inr (.inl w80))), (q_then, .inl (cJ, 124, .inr (.inl w81)))] H → va_D A [(q, .inr (8, [.ref q_readNeeds, .ref q_readPeople, .ref q_readQuarrels, .int f_readR, .int f_readP, .int f_readQ, .ref q_needs, .ref q_persons, .ref q_quarrels, .int f_rooms, .int f_people, .int f_pairs, .ref q_text, .int f_length, .int f_at, .int f_faultAt, .ref q_now, .int f_acts, .int f_next, .ref q_row, .ref q_least, .ref q_told, .ref q_ways, .ref q_then, .long f_seed, .ref q_isKept, .ref q_kept])), (q_needs, .inl (cI, 3, .inl f_needs)), (q_persons, .inl (cI, 20, .inl f_persons)), (q_now, .inl (cI, 194, .inl f_now)), (q_ways, .inl (cJ, 124, .inr (.inl w80))), (q_then, .inl (cJ, 124, .inr (.inl w81)))] → va_S A s.heap H locs → lv_has ls 9 [(3, .int y83), (4, .long y87), (6, .long y88)] → W p l e ({ frames := 2, cells := 0, slots := 0, locals := 46 } : Room) s m args below meth c H locs 0 0 Q (F0 m 294 ls [])) → ∀ (nlp : Nat) (y84 : Int64) (y85 : Int64) (y86 : Int32), gg_lpF (fun (s : (Int64 × Int64 × Int32)) => pX8_luck_L240 f_rooms f_people f_needs f_persons f_now w80 w81 y82 y83 s.1 s.2.1 s.2.2) nlp (y84, y85, y86) = some (y87, y88) → ∀ (H : Heap) (locs : List Loc) (ls : Array Slot), va_P D vwCl [(q, .inr (8, [.ref q_readNeeds, .ref q_readPeople, .ref q_readQuarrels, .int f_readR, .int f_readP, .int f_readQ, .ref q_needs, .ref q_persons, .ref q_quarrels, .int f_rooms, .int f_people, .int f_pairs, .ref q_text, .int f_length, .int f_at, .int f_faultAt, .ref q_now, .int f_acts, .int f_next, .ref q_row, .ref q_least, .ref q_told, .ref q_ways, .ref q_then, .long f_seed, .ref q_isKept, .ref q_kept])), (q_needs, .inl (cI, 3, .inl f_needs)), (q_persons, .inl (cI, 20, .inl f_persons)), (q_now, .inl (cI, 194, .inl f_now)), (q_ways, .inl (cJ, 124, .inr (.inl w80))), (q_then, .inl (cJ, 124, .inr (.inl w81)))] H → va_D A [(q, .inr (8, [.ref q_readNeeds, .ref q_readPeople, .ref q_readQuarrels, .int f_readR, .int f_readP, .int f_readQ, .ref q_needs, .ref q_persons, .ref q_quarrels, .int f_rooms, .int f_people, .int f_pairs, .ref q_text, .int f_length, .int f_at, .int f_faultAt, .ref q_now, .int f_acts, .int f_next, .ref q_row, .ref q_least, .ref q_told, .ref q_ways, .ref q_then, .long f_seed, .ref q_isKept, .ref q_kept])), (q_needs, .inl (cI, 3, .inl f_needs)), (q_persons, .inl (cI, 20, .inl f_persons)), (q_now, .inl (cI, 194, .inl f_now)), (q_ways, .inl (cJ, 124, .inr (.inl w80))), (q_then, .inl (cJ, 124, .inr (.inl w81)))] → va_S A s.heap H locs → lv_has ls 9 [(0, .ref q), (1, .int y82), (3, .int y83), (4, .long y84), (6, .long y85), (8, .int y86)] → W p l e ({ frames := 2, cells := 0, slots := 0, locals := 46 } : Room) s m args below meth c H locs 0 0 Q (F0 m 240 ls []) := by
    intro w80 w81 y82 y83 y87 y88 hE nlp
    induction nlp with
    | zero => intro y84 y85 y86 hf; cases hf
    | succ nlp ih =>
      intro y84 y85 y86 hf H locs ls hP hD hS hl
      obtain ⟨zz, hz, hzE, hzN⟩ := gg_lpF_x hf
      replace hf : pX8_luck_L240 f_rooms f_people f_needs f_persons f_now w80 w81 y82 y83 y84 y85 y86 = some zz := hz
      have J285 : ∀ (y92 : Int64) (y93 : Int32) (s94 : Int64) (s95 : Int64) (H : Heap) (locs : List Loc) (ls : Array Slot), pX8_luck_j285 f_rooms f_people f_needs f_persons f_now w80 w81 y82 y83 y92 y93 s94 s95 = some zz → va_P D vwCl [(q, .inr (8, [.ref q_readNeeds, .ref q_readPeople, .ref q_readQuarrels, .int f_readR, .int f_readP, .int f_readQ, .ref q_needs, .ref q_persons, .ref q_quarrels, .int f_rooms, .int f_people, .int f_pairs, .ref q_text, .int f_length, .int f_at, .int f_faultAt, .ref q_now, .int f_acts, .int f_next, .ref q_row, .ref q_least, .ref q_told, .ref q_ways, .ref q_then, .long f_seed, .ref q_isKept, .ref q_kept])), (q_needs, .inl (cI, 3, .inl f_needs)), (q_persons, .inl (cI, 20, .inl f_persons)), (q_now, .inl (cI, 194, .inl f_now)), (q_ways, .inl (cJ, 124, .inr (.inl w80))), (q_then, .inl (cJ, 124, .inr (.inl w81)))] H → va_D A [(q, .inr (8, [.ref q_readNeeds, .ref q_readPeople, .ref q_readQuarrels, .int f_readR, .int f_readP, .int f_readQ, .ref q_needs, .ref q_persons, .ref q_quarrels, .int f_rooms, .int f_people, .int f_pairs, .ref q_text, .int f_length, .int f_at, .int f_faultAt, .ref q_now, .int f_acts, .int f_next, .ref q_row, .ref q_least, .ref q_told, .ref q_ways, .ref q_then, .long f_seed, .ref q_isKept, .ref q_kept])), (q_needs, .inl (cI, 3, .inl f_needs)), (q_persons, .inl (cI, 20, .inl f_persons)), (q_now, .inl (cI, 194, .inl f_now)), (q_ways, .inl (cJ, 124, .inr (.inl w80))), (q_then, .inl (cJ, 124, .inr (.inl w81)))] → va_S A s.heap H locs → lv_has ls 9 [(0, .ref q), (1, .int y82), (3, .int y83), (6, .long y92), (8, .int y93)] → W p l e ({ frames := 2, cells := 0, slots := 0, locals := 46 } : Room) s m args below meth c H locs 0 0 Q (F0 m 285 ls [.long s95, .long s94]) := by
        intro y92 y93 s94 s95 H locs ls hf hP hD hS hl
        unfold pX8_luck_j285 at hf
        refine lv_ladd hx hb dX8_luck_285 ?_
        refine gg_topl hf (fun v96 hf => ?_)
        refine lv_lstore (lv' := [(4, .long v96), (0, .ref q), (1, .int y82), (3, .int y83), (6, .long y92), (8, .int y93)]) hx hb dX8_luck_286 hl (by decide) rfl (fun ls hl => ?_)
        refine gg_iinc (cst := (1 : Int32)) (k := 5) (lv' := fun v97 => [(8, .int v97), (4, .long v96), (0, .ref q), (1, .int y82), (3, .int y83), (6, .long y92)]) hx hb dX8_luck_288 hl rfl (by decide) (by decide) (fun _ => rfl) hf (fun v97 ls hl hf => ?_)
        refine lv_goto (tgt := 240) hx hb dX8_luck_291 (by decide) ?_
        exact ih _ _ _ (hzN _ (Option.some.inj hf).symm) _ _ _ hP hD hS (lv_sub hl [2, 3, 4, 1, 5, 0] rfl)
      unfold pX8_luck_L240 at hf
      refine lv_iload hx hb dX8_luck_240 (lv_at hl 5 rfl) ?_
      refine lv_bipush (v := (124 : Int32)) hx hb dX8_luck_242 (by decide) ?_
      refine lv_icmp_ge (tgt := 294) hx hb dX8_luck_244 (by decide) (fun hc => ?_) (fun hc => ?_)
      · replace hf := gg_pos hf hc
        have hq := hzE _ (Option.some.inj hf).symm
        cases hq
        exact hE _ _ _ hP hD hS (lv_sub hl [2, 3, 4] rfl)
      · replace hf := gg_neg hf hc
        refine lv_lload hx hb dX8_luck_247 (lv_at hl 4 rfl) ?_
        refine lv_aload_n hx hb dX8_luck_249 rfl (lv_at hl 0 rfl) ?_
        refine gg_get hx hb hts iX8 hown hK hP 0 rfl rfl 22 (by decide) k43 rfl rfl dX8_luck_250 ?_
        refine lv_iload hx hb dX8_luck_253 (lv_at hl 5 rfl) ?_
        refine gg_lald hx hb hK hP 4 1 rfl rfl dX8_luck_255 hf (fun hf => ?_)
        refine lv_ladd hx hb dX8_luck_256 ?_
        refine gg_topl hf (fun v90 hf => ?_)
        refine lv_lstore (lv' := [(6, .long v90), (0, .ref q), (1, .int y82), (3, .int y83), (4, .long y84), (8, .int y86)]) hx hb dX8_luck_257 hl (by decide) rfl (fun ls hl => ?_)
        refine lv_lload hx hb dX8_luck_259 (lv_at hl 4 rfl) ?_
        refine lv_iload hx hb dX8_luck_261 (lv_at hl 5 rfl) ?_
        refine lv_iconst (v := (4 : Int32)) hx hb dX8_luck_263 (by decide) ?_
        refine lv_idiv hx hb dX8_luck_264 (by decide) ?_
        refine lv_aload_n hx hb dX8_luck_265 rfl (lv_at hl 1 rfl) ?_
        refine gg_get hx hb hts iX8 hown hK hP 0 rfl rfl 6 (by decide) k19 rfl rfl dX8_luck_266 ?_
        refine lv_iload_n hx hb dX8_luck_269 rfl (lv_at hl 2 rfl) ?_
        refine gg_iald hx hb hK hP 1 0 rfl rfl dX8_luck_270 hf (fun hf => ?_)
        refine lv_icmp_ne (tgt := 284) hx hb dX8_luck_271 (by decide) (fun hc => ?_) (fun hc => ?_)
        · replace hf := gg_neg hf hc
          refine lv_lconst (v := (0 : Int64)) hx hb dX8_luck_284 (by decide) ?_
          exact J285 _ _ _ _ _ _ _ hf hP hD hS (lv_sub hl [1, 2, 3, 0, 5] rfl)
        · replace hf := gg_pos hf hc
          refine lv_aload_n hx hb dX8_luck_274 rfl (lv_at hl 1 rfl) ?_
          refine gg_get hx hb hts iX8 hown hK hP 0 rfl rfl 22 (by decide) k43 rfl rfl dX8_luck_275 ?_
          refine lv_iload hx hb dX8_luck_278 (lv_at hl 5 rfl) ?_
          refine gg_lald hx hb hK hP 4 1 rfl rfl dX8_luck_280 hf (fun hf => ?_)
          refine lv_goto (tgt := 285) hx hb dX8_luck_281 (by decide) ?_
          exact J285 _ _ _ _ _ _ _ hf hP hD hS (lv_sub hl [1, 2, 3, 0, 5] rfl)
  unfold pX8_luck at hf
  refine lv_aload_n hx hb dX8_luck_0 rfl (lv_at hl 0 rfl) ?_
  refine lv_iload_n hx hb dX8_luck_1 rfl (lv_at hl 1 rfl) ?_
  obtain ⟨r1, hu, hf⟩ := gg_c1_x hf
  refine gg_callV (wr := [(q_needs, .inl (cI, 3, .inl f_needs)), (q_persons, .inl (cI, 20, .inl f_persons)), (q_now, .inl (cI, 194, .inl f_now)), (q_ways, .inl (cJ, 124, .inr (.inl f_ways))), (q_then, .inl (cJ, 124, .inr (.inl f_then)))]) (w2 := fun _ => [(q, .inr (8, [.ref q_readNeeds, .ref q_readPeople, .ref q_readQuarrels, .int f_readR, .int f_readP, .int f_readQ, .ref q_needs, .ref q_persons, .ref q_quarrels, .int f_rooms, .int f_people, .int f_pairs, .ref q_text, .int f_length, .int f_at, .int f_faultAt, .ref q_now, .int f_acts, .int f_next, .ref q_row, .ref q_least, .ref q_told, .ref q_ways, .ref q_then, .long f_seed, .ref q_isKept, .ref q_kept])), (q_needs, .inl (cI, 3, .inl f_needs)), (q_persons, .inl (cI, 20, .inl f_persons)), (q_now, .inl (cI, 194, .inl f_now)), (q_ways, .inl (cJ, 124, .inr (.inl f_ways))), (q_then, .inl (cJ, 124, .inr (.inl f_then)))]) ⟨hx, hb, hml, hown, hts⟩ (mX8_isRoom l D cI cJ cZ cR q q_readNeeds q_readPeople q_readQuarrels q_needs q_persons q_quarrels q_text q_now q_row q_least q_told q_ways q_then q_isKept q_kept f_readR f_readP f_readQ f_rooms f_people f_pairs f_length f_at f_faultAt f_acts f_next f_seed _ r1 hu) (cwV 1 hts gX8_luck_X8_isRoom rfl rfl rfl (by decide +kernel) ⟨Nat.le_of_ble_eq_true rfl, Nat.le_of_ble_eq_true rfl⟩) hK hP hD hS hA 0 rfl rfl rfl rfl hl.1 rfl (Nat.le_of_ble_eq_true rfl) dX8_luck_2 ⟨Nat.le_of_ble_eq_true rfl, Nat.le_of_ble_eq_true rfl⟩ [0] [1, 2, 3, 4, 5] rfl rfl rfl rfl rfl [5, 0, 1, 2, 3, 4] rfl (fun _ => rfl) (fun _ H locs hP hD hS => ?_)
  refine gg_st_i ?_
  refine lv_if_ne (tgt := 12) hx hb dX8_luck_5 (by decide) (fun hc => ?_) (fun hc => ?_)
  · replace hf := gg_neg hf hc
    refine lv_iload_n hx hb dX8_luck_12 rfl (lv_at hl 2 rfl) ?_
    refine lv_i2l hx hb dX8_luck_13 rfl ?_
    refine lv_lconst (v := (0 : Int64)) hx hb dX8_luck_14 (by decide) ?_
    refine lv_ldc2 (v := (3 : Int64)) hx hb hown (hts (.constantLong RX8 137 (3)) (List.mem_of_getElem? (i := 2) rfl)) dX8_luck_15 ?_
    obtain ⟨r2, hu, hf⟩ := gg_c1_x hf
    refine gg_callS (wr := [(q, .inr (8, [.ref q_readNeeds, .ref q_readPeople, .ref q_readQuarrels, .int f_readR, .int f_readP, .int f_readQ, .ref q_needs, .ref q_persons, .ref q_quarrels, .int f_rooms, .int f_people, .int f_pairs, .ref q_text, .int f_length, .int f_at, .int f_faultAt, .ref q_now, .int f_acts, .int f_next, .ref q_row, .ref q_least, .ref q_told, .ref q_ways, .ref q_then, .long f_seed, .ref q_isKept, .ref q_kept])), (q_needs, .inl (cI, 3, .inl f_needs)), (q_persons, .inl (cI, 20, .inl f_persons)), (q_now, .inl (cI, 194, .inl f_now)), (q_ways, .inl (cJ, 124, .inr (.inl f_ways))), (q_then, .inl (cJ, 124, .inr (.inl f_then)))]) (w2 := fun _ => [(q, .inr (8, [.ref q_readNeeds, .ref q_readPeople, .ref q_readQuarrels, .int f_readR, .int f_readP, .int f_readQ, .ref q_needs, .ref q_persons, .ref q_quarrels, .int f_rooms, .int f_people, .int f_pairs, .ref q_text, .int f_length, .int f_at, .int f_faultAt, .ref q_now, .int f_acts, .int f_next, .ref q_row, .ref q_least, .ref q_told, .ref q_ways, .ref q_then, .long f_seed, .ref q_isKept, .ref q_kept])), (q_needs, .inl (cI, 3, .inl f_needs)), (q_persons, .inl (cI, 20, .inl f_persons)), (q_now, .inl (cI, 194, .inl f_now)), (q_ways, .inl (cJ, 124, .inr (.inl f_ways))), (q_then, .inl (cJ, 124, .inr (.inl f_then)))]) ⟨hx, hb, hml, hown, hts⟩ (mX8_in l D cI cJ cZ cR   _ _ _ r2 hu) (va_cwS 3 hts gX8_luck_X8_in rfl rfl rfl (by decide +kernel) ⟨Nat.le_of_ble_eq_true rfl, Nat.le_of_ble_eq_true rfl⟩) hK hP hD hS hA rfl hl.1 rfl (Nat.le_of_ble_eq_true rfl) dX8_luck_18 ⟨Nat.le_of_ble_eq_true rfl, Nat.le_of_ble_eq_true rfl⟩ [] [0, 1, 2, 3, 4, 5] rfl rfl rfl rfl rfl [0, 1, 2, 3, 4, 5] rfl (fun _ => rfl) (fun _ H locs hP hD hS => ?_)
    refine gg_st_i ?_
    refine lv_if_ne (tgt := 28) hx hb dX8_luck_21 (by decide) (fun hc => ?_) (fun hc => ?_)
    · replace hf := gg_neg hf hc
      refine lv_iconst (v := (0 : Int32)) hx hb dX8_luck_28 (by decide) ?_
      refine lv_istore (lv' := [(4, .int (0 : Int32)), (0, .ref q), (1, .int x1), (2, .int x2), (3, .int x3)]) hx hb dX8_luck_29 hl (by decide) rfl (fun ls hl => ?_)
      obtain ⟨w18, hlp, hf⟩ := gg_c1_x hf
      obtain ⟨nlp, hlp⟩ := gg_lp_x hlp
      refine L31 _ _ _ _ _ (fun H locs ls hP hD hS hl => ?_) nlp _ _ hlp _ _ _ hP hD hS (lv_sub hl [1, 2, 3, 4, 0] rfl)
      refine lv_iconst (v := (0 : Int32)) hx hb dX8_luck_82 (by decide) ?_
      refine lv_istore (lv' := [(4, .int (0 : Int32)), (0, .ref q), (1, .int x1), (2, .int x2), (3, .int x3)]) hx hb dX8_luck_83 hl (by decide) rfl (fun ls hl => ?_)
      obtain ⟨w78, w79, hlp, hf⟩ := gg_c2_x hf
      obtain ⟨nlp, hlp⟩ := gg_lp_x hlp
      refine L85 _ _ _ _ _ (fun H locs ls hP hD hS hl => ?_) nlp _ _ _ hlp _ _ _ hP hD hS (lv_sub hl [1, 2, 3, 4, 0] rfl)
      refine lv_lconst (v := (0 : Int64)) hx hb dX8_luck_231 (by decide) ?_
      refine lv_lstore (lv' := [(4, .long (0 : Int64)), (0, .ref q), (1, .int x1), (3, .int x3)]) hx hb dX8_luck_232 hl (by decide) rfl (fun ls hl => ?_)
      refine lv_lconst (v := (0 : Int64)) hx hb dX8_luck_234 (by decide) ?_
      refine lv_lstore (lv' := [(6, .long (0 : Int64)), (4, .long (0 : Int64)), (0, .ref q), (1, .int x1), (3, .int x3)]) hx hb dX8_luck_235 hl (by decide) rfl (fun ls hl => ?_)
      refine lv_iconst (v := (0 : Int32)) hx hb dX8_luck_237 (by decide) ?_
      refine lv_istore (lv' := [(8, .int (0 : Int32)), (6, .long (0 : Int64)), (4, .long (0 : Int64)), (0, .ref q), (1, .int x1), (3, .int x3)]) hx hb dX8_luck_238 hl (by decide) rfl (fun ls hl => ?_)
      obtain ⟨y99, y100, hlp, hf⟩ := gg_c2_x hf
      obtain ⟨nlp, hlp⟩ := gg_lp_x hlp
      refine L240 _ _ _ _ _ _ (fun H locs ls hP hD hS hl => ?_) nlp _ _ _ hlp _ _ _ hP hD hS (lv_sub hl [3, 4, 5, 2, 1, 0] rfl)
      refine lv_lload hx hb dX8_luck_294 (lv_at hl 1 rfl) ?_
      refine lv_lload hx hb dX8_luck_296 (lv_at hl 2 rfl) ?_
      refine lv_iload_n hx hb dX8_luck_298 rfl (lv_at hl 0 rfl) ?_
      obtain ⟨r101, hu, hf⟩ := gg_c1_x hf
      refine gg_callS (wr := [(q, .inr (8, [.ref q_readNeeds, .ref q_readPeople, .ref q_readQuarrels, .int f_readR, .int f_readP, .int f_readQ, .ref q_needs, .ref q_persons, .ref q_quarrels, .int f_rooms, .int f_people, .int f_pairs, .ref q_text, .int f_length, .int f_at, .int f_faultAt, .ref q_now, .int f_acts, .int f_next, .ref q_row, .ref q_least, .ref q_told, .ref q_ways, .ref q_then, .long f_seed, .ref q_isKept, .ref q_kept])), (q_needs, .inl (cI, 3, .inl f_needs)), (q_persons, .inl (cI, 20, .inl f_persons)), (q_now, .inl (cI, 194, .inl f_now)), (q_ways, .inl (cJ, 124, .inr (.inl w78))), (q_then, .inl (cJ, 124, .inr (.inl w79)))]) (w2 := fun _ => [(q, .inr (8, [.ref q_readNeeds, .ref q_readPeople, .ref q_readQuarrels, .int f_readR, .int f_readP, .int f_readQ, .ref q_needs, .ref q_persons, .ref q_quarrels, .int f_rooms, .int f_people, .int f_pairs, .ref q_text, .int f_length, .int f_at, .int f_faultAt, .ref q_now, .int f_acts, .int f_next, .ref q_row, .ref q_least, .ref q_told, .ref q_ways, .ref q_then, .long f_seed, .ref q_isKept, .ref q_kept])), (q_needs, .inl (cI, 3, .inl f_needs)), (q_persons, .inl (cI, 20, .inl f_persons)), (q_now, .inl (cI, 194, .inl f_now)), (q_ways, .inl (cJ, 124, .inr (.inl w78))), (q_then, .inl (cJ, 124, .inr (.inl w79)))]) ⟨hx, hb, hml, hown, hts⟩ (mX8_part l D cI cJ cZ cR   _ _ _ r101 hu) (va_cwS 3 hts gX8_luck_X8_part rfl rfl rfl (by decide +kernel) ⟨Nat.le_of_ble_eq_true rfl, Nat.le_of_ble_eq_true rfl⟩) hK hP hD hS hA rfl hl.1 rfl (Nat.le_of_ble_eq_true rfl) dX8_luck_299 ⟨Nat.le_of_ble_eq_true rfl, Nat.le_of_ble_eq_true rfl⟩ [] [0, 1, 2, 3, 4, 5] rfl rfl rfl rfl rfl [0, 1, 2, 3, 4, 5] rfl (fun _ => rfl) (fun _ H locs hP hD hS => ?_)
      refine gg_st_l ?_
      cases hf
      rw [hQ]
      exact gg_lret hx hb hr hlocks hS (Nat.le_of_ble_eq_true rfl) (Nat.le_of_ble_eq_true rfl) dX8_luck_302 () rfl hP hD
    · replace hf := gg_pos hf hc
      refine lv_ldc2 (v := (-2 : Int64)) hx hb hown (hts (.constantLong RX8 187 (-2)) (List.mem_of_getElem? (i := 3) rfl)) dX8_luck_24 ?_
      cases hf
      rw [hQ]
      exact gg_lret hx hb hr hlocks hS (Nat.le_of_ble_eq_true rfl) (Nat.le_of_ble_eq_true rfl) dX8_luck_27 () rfl hP hD
  · replace hf := gg_pos hf hc
    refine lv_ldc2 (v := (-1 : Int64)) hx hb hown (hts (.constantLong RX8 185 (-1)) (List.mem_of_getElem? (i := 1) rfl)) dX8_luck_8 ?_
    cases hf
    rw [hQ]
    exact gg_lret hx hb hr hlocks hS (Nat.le_of_ble_eq_true rfl) (Nat.le_of_ble_eq_true rfl) dX8_luck_11 () rfl hP hD
set_option maxHeartbeats 4000000 in
set_option maxRecDepth 100000 in
theorem mX8_seed (l : Launch) (D : va_G) (cI cJ cZ cR : ClassId) (q q_readNeeds q_readPeople q_readQuarrels q_needs q_persons q_quarrels q_text q_now q_row q_least q_told q_ways q_then q_isKept q_kept : Nat) (f_readR : Int32) (f_readP : Int32) (f_readQ : Int32) (f_rooms : Int32) (f_people : Int32) (f_pairs : Int32) (f_length : Int32) (f_at : Int32) (f_faultAt : Int32) (f_acts : Int32) (f_next : Int32) (f_seed : Int64) (x1 : Int64) (rr : Int64) (nf_seed : Int64) (hf : pX8_seed f_seed x1 = some (rr, nf_seed)) : gg_M gN vwCl (gg_T cI cJ cZ cR) l D yX8_seed wsX8_seed ({ frames := 0, cells := 0, slots := 0, locals := 0 } : Room) [.ref q, .long x1] [(q, .inr (8, [.ref q_readNeeds, .ref q_readPeople, .ref q_readQuarrels, .int f_readR, .int f_readP, .int f_readQ, .ref q_needs, .ref q_persons, .ref q_quarrels, .int f_rooms, .int f_people, .int f_pairs, .ref q_text, .int f_length, .int f_at, .int f_faultAt, .ref q_now, .int f_acts, .int f_next, .ref q_row, .ref q_least, .ref q_told, .ref q_ways, .ref q_then, .long f_seed, .ref q_isKept, .ref q_kept]))] (fun _ : Unit => some (.long rr)) (fun _ => [(q, .inr (8, [.ref q_readNeeds, .ref q_readPeople, .ref q_readQuarrels, .int f_readR, .int f_readP, .int f_readQ, .ref q_needs, .ref q_persons, .ref q_quarrels, .int f_rooms, .int f_people, .int f_pairs, .ref q_text, .int f_length, .int f_at, .int f_faultAt, .ref q_now, .int f_acts, .int f_next, .ref q_row, .ref q_least, .ref q_told, .ref q_ways, .ref q_then, .long nf_seed, .ref q_isKept, .ref q_kept]))]) := by
  refine gg_M.of (cc := cX8_seed) (maxL := 5) (rt := (some .long)) (by decide) rfl (Nat.le_of_ble_eq_true rfl) ?_
  intro p e s m below meth c A args Q hQ hx hb hr hml hts hown hlocks hin hA hS hP hK hD ls hl
  replace hown : s.vm.findClass RX8 = some m.cls := hown
  replace hl : lv_has ls 5 [(0, .ref q), (1, .long x1)] := hl
  have k197 := (hts (.fieldLink RX8 197 "AbsentCarpetsModel" "seed" "J") (List.mem_of_getElem? (i := 1) rfl))
  have iX8 : ∀ w ∈ wsX80, w ∈ wsX8_seed := fun _ h => List.mem_cons_of_mem _ (List.mem_append_right _ (h))
  unfold pX8_seed at hf
  refine lv_aload_n hx hb dX8_seed_0 rfl (lv_at hl 0 rfl) ?_
  refine gg_get hx hb hts iX8 hown hK hP 0 rfl rfl 24 (by decide) k197 rfl rfl dX8_seed_1 ?_
  refine lv_lstore_n (lv' := [(3, .long f_seed), (0, .ref q), (1, .long x1)]) hx hb dX8_seed_4 rfl hl (by decide) rfl (fun ls hl => ?_)
  refine lv_aload_n hx hb dX8_seed_5 rfl (lv_at hl 1 rfl) ?_
  refine lv_lload_n hx hb dX8_seed_6 rfl (lv_at hl 2 rfl) ?_
  refine gg_put (ws' := [(q, .inr (8, [.ref q_readNeeds, .ref q_readPeople, .ref q_readQuarrels, .int f_readR, .int f_readP, .int f_readQ, .ref q_needs, .ref q_persons, .ref q_quarrels, .int f_rooms, .int f_people, .int f_pairs, .ref q_text, .int f_length, .int f_at, .int f_faultAt, .ref q_now, .int f_acts, .int f_next, .ref q_row, .ref q_least, .ref q_told, .ref q_ways, .ref q_then, .long x1, .ref q_isKept, .ref q_kept]))]) hx hb hts iX8 tyX8_ok nmX8 hown hK hP hD hS 0 rfl rfl 24 (by decide) k197 rfl rfl rfl rfl rfl (Nat.le_of_ble_eq_true rfl) dX8_seed_7 rfl (fun H locs hP hD hS => ?_)
  refine lv_lload_n hx hb dX8_seed_10 rfl (lv_at hl 0 rfl) ?_
  cases hf
  rw [hQ]
  exact gg_lret hx hb hr hlocks hS (Nat.le_of_ble_eq_true rfl) (Nat.le_of_ble_eq_true rfl) dX8_seed_11 () rfl hP hD
set_option maxHeartbeats 4000000 in
set_option maxRecDepth 100000 in
theorem mX8_season (l : Launch) (D : va_G) (cI cJ cZ cR : ClassId) (q q_needs q_persons q_now q_readNeeds q_readPeople q_readQuarrels q_quarrels q_text q_row q_least q_told q_ways q_then q_isKept q_kept : Nat) (f_readR : Int32) (f_readP : Int32) (f_readQ : Int32) (f_rooms : Int32) (f_people : Int32) (f_pairs : Int32) (f_length : Int32) (f_at : Int32) (f_faultAt : Int32) (f_acts : Int32) (f_next : Int32) (f_seed : Int64) (f_needs : (Nat → Int32)) (f_persons : (Nat → Int32)) (f_now : (Nat → Int32)) (x1 : Int32) (x2 : Int32) (rr : Int32) (nf_seed : Int64) (nf_now : (Nat → Int32)) (hf : pX8_season f_rooms f_people f_seed f_needs f_persons f_now x1 x2 = some (rr, nf_seed, nf_now)) : gg_M gN vwCl (gg_T cI cJ cZ cR) l D yX8_season wsX8_season ({ frames := 2, cells := 0, slots := 0, locals := 50 } : Room) [.ref q, .int x1, .int x2] [(q, .inr (8, [.ref q_readNeeds, .ref q_readPeople, .ref q_readQuarrels, .int f_readR, .int f_readP, .int f_readQ, .ref q_needs, .ref q_persons, .ref q_quarrels, .int f_rooms, .int f_people, .int f_pairs, .ref q_text, .int f_length, .int f_at, .int f_faultAt, .ref q_now, .int f_acts, .int f_next, .ref q_row, .ref q_least, .ref q_told, .ref q_ways, .ref q_then, .long f_seed, .ref q_isKept, .ref q_kept])), (q_needs, .inl (cI, 3, .inl f_needs)), (q_persons, .inl (cI, 20, .inl f_persons)), (q_now, .inl (cI, 194, .inl f_now))] (fun _ : Unit => some (.int rr)) (fun _ => [(q, .inr (8, [.ref q_readNeeds, .ref q_readPeople, .ref q_readQuarrels, .int f_readR, .int f_readP, .int f_readQ, .ref q_needs, .ref q_persons, .ref q_quarrels, .int f_rooms, .int f_people, .int f_pairs, .ref q_text, .int f_length, .int f_at, .int f_faultAt, .ref q_now, .int f_acts, .int f_next, .ref q_row, .ref q_least, .ref q_told, .ref q_ways, .ref q_then, .long nf_seed, .ref q_isKept, .ref q_kept])), (q_needs, .inl (cI, 3, .inl f_needs)), (q_persons, .inl (cI, 20, .inl f_persons)), (q_now, .inl (cI, 194, .inl nf_now))]) := by
  refine gg_M.of (cc := cX8_season) (maxL := 6) (rt := (some .int)) (by decide) rfl (Nat.le_of_ble_eq_true rfl) ?_
  intro p e s m below meth c A args Q hQ hx hb hr hml hts hown hlocks hin hA hS hP hK hD ls hl
  replace hown : s.vm.findClass RX8 = some m.cls := hown
  replace hl : lv_has ls 6 [(0, .ref q), (1, .int x1), (2, .int x2)] := hl
  have k31 := (hts (.fieldLink RX8 31 "AbsentCarpetsModel" "now" "[I") (List.mem_of_getElem? (i := 2) rfl))
  have k111 := (hts (.fieldLink RX8 111 "AbsentCarpetsModel" "people" "I") (List.mem_of_getElem? (i := 3) rfl))
  have k197 := (hts (.fieldLink RX8 197 "AbsentCarpetsModel" "seed" "J") (List.mem_of_getElem? (i := 4) rfl))
  have k22 := (hts (.fieldLink RX8 22 "AbsentCarpetsModel" "persons" "[I") (List.mem_of_getElem? (i := 8) rfl))
  have iX8 : ∀ w ∈ wsX80, w ∈ wsX8_season := fun _ h => List.mem_cons_of_mem _ (List.mem_append_right _ (h))
  have L27 : ∀ (w3 : Int64) (y4 : Int32) (y5 : Int32) (w8 : (Nat → Int32)), (∀ (H : Heap) (locs : List Loc) (ls : Array Slot), va_P D vwCl [(q, .inr (8, [.ref q_readNeeds, .ref q_readPeople, .ref q_readQuarrels, .int f_readR, .int f_readP, .int f_readQ, .ref q_needs, .ref q_persons, .ref q_quarrels, .int f_rooms, .int f_people, .int f_pairs, .ref q_text, .int f_length, .int f_at, .int f_faultAt, .ref q_now, .int f_acts, .int f_next, .ref q_row, .ref q_least, .ref q_told, .ref q_ways, .ref q_then, .long w3, .ref q_isKept, .ref q_kept])), (q_needs, .inl (cI, 3, .inl f_needs)), (q_persons, .inl (cI, 20, .inl f_persons)), (q_now, .inl (cI, 194, .inl w8))] H → va_D A [(q, .inr (8, [.ref q_readNeeds, .ref q_readPeople, .ref q_readQuarrels, .int f_readR, .int f_readP, .int f_readQ, .ref q_needs, .ref q_persons, .ref q_quarrels, .int f_rooms, .int f_people, .int f_pairs, .ref q_text, .int f_length, .int f_at, .int f_faultAt, .ref q_now, .int f_acts, .int f_next, .ref q_row, .ref q_least, .ref q_told, .ref q_ways, .ref q_then, .long w3, .ref q_isKept, .ref q_kept])), (q_needs, .inl (cI, 3, .inl f_needs)), (q_persons, .inl (cI, 20, .inl f_persons)), (q_now, .inl (cI, 194, .inl w8))] → va_S A s.heap H locs → lv_has ls 6 [(0, .ref q), (1, .int y4), (2, .int y5)] → W p l e ({ frames := 2, cells := 0, slots := 0, locals := 50 } : Room) s m args below meth c H locs 0 0 Q (F0 m 54 ls [])) → ∀ (nlp : Nat) (w6 : (Nat → Int32)) (y7 : Int32), gg_lpF (fun (s : ((Nat → Int32) × Int32)) => pX8_season_L27 f_rooms f_people f_needs f_persons w3 y4 y5 s.1 s.2) nlp (w6, y7) = some w8 → ∀ (H : Heap) (locs : List Loc) (ls : Array Slot), va_P D vwCl [(q, .inr (8, [.ref q_readNeeds, .ref q_readPeople, .ref q_readQuarrels, .int f_readR, .int f_readP, .int f_readQ, .ref q_needs, .ref q_persons, .ref q_quarrels, .int f_rooms, .int f_people, .int f_pairs, .ref q_text, .int f_length, .int f_at, .int f_faultAt, .ref q_now, .int f_acts, .int f_next, .ref q_row, .ref q_least, .ref q_told, .ref q_ways, .ref q_then, .long w3, .ref q_isKept, .ref q_kept])), (q_needs, .inl (cI, 3, .inl f_needs)), (q_persons, .inl (cI, 20, .inl f_persons)), (q_now, .inl (cI, 194, .inl w6))] H → va_D A [(q, .inr (8, [.ref q_readNeeds, .ref q_readPeople, .ref q_readQuarrels, .int f_readR, .int f_readP, .int f_readQ, .ref q_needs, .ref q_persons, .ref q_quarrels, .int f_rooms, .int f_people, .int f_pairs, .ref q_text, .int f_length, .int f_at, .int f_faultAt, .ref q_now, .int f_acts, .int f_next, .ref q_row, .ref q_least, .ref q_told, .ref q_ways, .ref q_then, .long w3, .ref q_isKept, .ref q_kept])), (q_needs, .inl (cI, 3, .inl f_needs)), (q_persons, .inl (cI, 20, .inl f_persons)), (q_now, .inl (cI, 194, .inl w6))] → va_S A s.heap H locs → lv_has ls 6 [(0, .ref q), (1, .int y4), (2, .int y5), (3, .int y7)] → W p l e ({ frames := 2, cells := 0, slots := 0, locals := 50 } : Room) s m args below meth c H locs 0 0 Q (F0 m 27 ls []) := by
    intro w3 y4 y5 w8 hE nlp
    induction nlp with
    | zero => intro w6 y7 hf; cases hf
    | succ nlp ih =>
      intro w6 y7 hf H locs ls hP hD hS hl
      obtain ⟨zz, hz, hzE, hzN⟩ := gg_lpF_x hf
      replace hf : pX8_season_L27 f_rooms f_people f_needs f_persons w3 y4 y5 w6 y7 = some zz := hz
      unfold pX8_season_L27 at hf
      refine lv_iload_n hx hb dX8_season_27 rfl (lv_at hl 3 rfl) ?_
      refine lv_bipush (v := (97 : Int32)) hx hb dX8_season_28 (by decide) ?_
      refine lv_icmp_ge (tgt := 54) hx hb dX8_season_30 (by decide) (fun hc => ?_) (fun hc => ?_)
      · replace hf := gg_pos hf hc
        have hq := hzE _ (Option.some.inj hf).symm
        cases hq
        exact hE _ _ _ hP hD hS (lv_sub hl [0, 1, 2] rfl)
      · replace hf := gg_neg hf hc
        refine lv_aload_n hx hb dX8_season_33 rfl (lv_at hl 0 rfl) ?_
        refine gg_get hx hb hts iX8 hown hK hP 0 rfl rfl 16 (by decide) k31 rfl rfl dX8_season_34 ?_
        refine lv_bipush (v := (97 : Int32)) hx hb dX8_season_37 (by decide) ?_
        refine lv_iload_n hx hb dX8_season_39 rfl (lv_at hl 3 rfl) ?_
        refine lv_iadd hx hb dX8_season_40 ?_
        refine lv_aload_n hx hb dX8_season_41 rfl (lv_at hl 0 rfl) ?_
        refine gg_get hx hb hts iX8 hown hK hP 0 rfl rfl 16 (by decide) k31 rfl rfl dX8_season_42 ?_
        refine lv_iload_n hx hb dX8_season_45 rfl (lv_at hl 3 rfl) ?_
        refine gg_iald hx hb hK hP 3 0 rfl rfl dX8_season_46 hf (fun hf => ?_)
        refine gg_iast (ws' := fun g10 => [(q, .inr (8, [.ref q_readNeeds, .ref q_readPeople, .ref q_readQuarrels, .int f_readR, .int f_readP, .int f_readQ, .ref q_needs, .ref q_persons, .ref q_quarrels, .int f_rooms, .int f_people, .int f_pairs, .ref q_text, .int f_length, .int f_at, .int f_faultAt, .ref q_now, .int f_acts, .int f_next, .ref q_row, .ref q_least, .ref q_told, .ref q_ways, .ref q_then, .long w3, .ref q_isKept, .ref q_kept])), (q_needs, .inl (cI, 3, .inl f_needs)), (q_persons, .inl (cI, 20, .inl f_persons)), (q_now, .inl (cI, 194, .inl g10))]) hx hb hK hP hD hS 3 0 rfl rfl dX8_season_47 (fun _ => rfl) hf (fun g10 H locs hP hD hS hf => ?_)
        refine gg_iinc (cst := (1 : Int32)) (k := 3) (lv' := fun v11 => [(3, .int v11), (0, .ref q), (1, .int y4), (2, .int y5)]) hx hb dX8_season_48 hl rfl (by decide) (by decide) (fun _ => rfl) hf (fun v11 ls hl hf => ?_)
        refine lv_goto (tgt := 27) hx hb dX8_season_51 (by decide) ?_
        exact ih _ _ (hzN _ (Option.some.inj hf).symm) _ _ _ hP hD hS (lv_sub hl [1, 2, 3, 0] rfl)
  have L67 : ∀ (w20 : (Nat → Int32)) (y21 : Int32) (y22 : Int32) (y23 : Int32) (w27 : Int64) (y28 : Int32), (∀ (H : Heap) (locs : List Loc) (ls : Array Slot), va_P D vwCl [(q, .inr (8, [.ref q_readNeeds, .ref q_readPeople, .ref q_readQuarrels, .int f_readR, .int f_readP, .int f_readQ, .ref q_needs, .ref q_persons, .ref q_quarrels, .int f_rooms, .int f_people, .int f_pairs, .ref q_text, .int f_length, .int f_at, .int f_faultAt, .ref q_now, .int f_acts, .int f_next, .ref q_row, .ref q_least, .ref q_told, .ref q_ways, .ref q_then, .long w27, .ref q_isKept, .ref q_kept])), (q_needs, .inl (cI, 3, .inl f_needs)), (q_persons, .inl (cI, 20, .inl f_persons)), (q_now, .inl (cI, 194, .inl w20))] H → va_D A [(q, .inr (8, [.ref q_readNeeds, .ref q_readPeople, .ref q_readQuarrels, .int f_readR, .int f_readP, .int f_readQ, .ref q_needs, .ref q_persons, .ref q_quarrels, .int f_rooms, .int f_people, .int f_pairs, .ref q_text, .int f_length, .int f_at, .int f_faultAt, .ref q_now, .int f_acts, .int f_next, .ref q_row, .ref q_least, .ref q_told, .ref q_ways, .ref q_then, .long w27, .ref q_isKept, .ref q_kept])), (q_needs, .inl (cI, 3, .inl f_needs)), (q_persons, .inl (cI, 20, .inl f_persons)), (q_now, .inl (cI, 194, .inl w20))] → va_S A s.heap H locs → lv_has ls 6 [(0, .ref q), (1, .int y21), (2, .int y22), (3, .int y23), (4, .int y28)] → W p l e ({ frames := 2, cells := 0, slots := 0, locals := 50 } : Room) s m args below meth c H locs 0 0 Q (F0 m 138 ls [])) → ∀ (nlp : Nat) (w24 : Int64) (y25 : Int32) (y26 : Int32), gg_lpF (fun (s : (Int64 × Int32 × Int32)) => pX8_season_L67 f_rooms f_people f_needs f_persons w20 y21 y22 y23 s.1 s.2.1 s.2.2) nlp (w24, y25, y26) = some (w27, y28) → ∀ (H : Heap) (locs : List Loc) (ls : Array Slot), va_P D vwCl [(q, .inr (8, [.ref q_readNeeds, .ref q_readPeople, .ref q_readQuarrels, .int f_readR, .int f_readP, .int f_readQ, .ref q_needs, .ref q_persons, .ref q_quarrels, .int f_rooms, .int f_people, .int f_pairs, .ref q_text, .int f_length, .int f_at, .int f_faultAt, .ref q_now, .int f_acts, .int f_next, .ref q_row, .ref q_least, .ref q_told, .ref q_ways, .ref q_then, .long w24, .ref q_isKept, .ref q_kept])), (q_needs, .inl (cI, 3, .inl f_needs)), (q_persons, .inl (cI, 20, .inl f_persons)), (q_now, .inl (cI, 194, .inl w20))] H → va_D A [(q, .inr (8, [.ref q_readNeeds, .ref q_readPeople, .ref q_readQuarrels, .int f_readR, .int f_readP, .int f_readQ, .ref q_needs, .ref q_persons, .ref q_quarrels, .int f_rooms, .int f_people, .int f_pairs, .ref q_text, .int f_length, .int f_at, .int f_faultAt, .ref q_now, .int f_acts, .int f_next, .ref q_row, .ref q_least, .ref q_told, .ref q_ways, .ref q_then, .long w24, .ref q_isKept, .ref q_kept])), (q_needs, .inl (cI, 3, .inl f_needs)), (q_persons, .inl (cI, 20, .inl f_persons)), (q_now, .inl (cI, 194, .inl w20))] → va_S A s.heap H locs → lv_has ls 6 [(0, .ref q), (1, .int y21), (2, .int y22), (3, .int y23), (4, .int y25), (5, .int y26)] → W p l e ({ frames := 2, cells := 0, slots := 0, locals := 50 } : Room) s m args below meth c H locs 0 0 Q (F0 m 67 ls []) := by
    intro w20 y21 y22 y23 w27 y28 hE nlp
    induction nlp with
    | zero => intro w24 y25 y26 hf; cases hf
    | succ nlp ih =>
      intro w24 y25 y26 hf H locs ls hP hD hS hl
      obtain ⟨zz, hz, hzE, hzN⟩ := gg_lpF_x hf
      replace hf : pX8_season_L67 f_rooms f_people f_needs f_persons w20 y21 y22 y23 w24 y25 y26 = some zz := hz
      have J129 : ∀ (w31 : Int64) (y32 : Int32) (s33 : Int32) (s34 : Int32) (H : Heap) (locs : List Loc) (ls : Array Slot), pX8_season_j129 f_rooms f_people f_needs f_persons w20 y21 y22 y23 w31 y32 s33 s34 = some zz → va_P D vwCl [(q, .inr (8, [.ref q_readNeeds, .ref q_readPeople, .ref q_readQuarrels, .int f_readR, .int f_readP, .int f_readQ, .ref q_needs, .ref q_persons, .ref q_quarrels, .int f_rooms, .int f_people, .int f_pairs, .ref q_text, .int f_length, .int f_at, .int f_faultAt, .ref q_now, .int f_acts, .int f_next, .ref q_row, .ref q_least, .ref q_told, .ref q_ways, .ref q_then, .long w31, .ref q_isKept, .ref q_kept])), (q_needs, .inl (cI, 3, .inl f_needs)), (q_persons, .inl (cI, 20, .inl f_persons)), (q_now, .inl (cI, 194, .inl w20))] H → va_D A [(q, .inr (8, [.ref q_readNeeds, .ref q_readPeople, .ref q_readQuarrels, .int f_readR, .int f_readP, .int f_readQ, .ref q_needs, .ref q_persons, .ref q_quarrels, .int f_rooms, .int f_people, .int f_pairs, .ref q_text, .int f_length, .int f_at, .int f_faultAt, .ref q_now, .int f_acts, .int f_next, .ref q_row, .ref q_least, .ref q_told, .ref q_ways, .ref q_then, .long w31, .ref q_isKept, .ref q_kept])), (q_needs, .inl (cI, 3, .inl f_needs)), (q_persons, .inl (cI, 20, .inl f_persons)), (q_now, .inl (cI, 194, .inl w20))] → va_S A s.heap H locs → lv_has ls 6 [(0, .ref q), (1, .int y21), (2, .int y22), (3, .int y23), (5, .int y32)] → W p l e ({ frames := 2, cells := 0, slots := 0, locals := 50 } : Room) s m args below meth c H locs 0 0 Q (F0 m 129 ls [.int s34, .int s33]) := by
        intro w31 y32 s33 s34 H locs ls hf hP hD hS hl
        unfold pX8_season_j129 at hf
        refine lv_ior hx hb dX8_season_129 ?_
        refine gg_topi hf (fun v35 hf => ?_)
        refine lv_istore (lv' := [(4, .int v35), (0, .ref q), (1, .int y21), (2, .int y22), (3, .int y23), (5, .int y32)]) hx hb dX8_season_130 hl (by decide) rfl (fun ls hl => ?_)
        refine gg_iinc (cst := (1 : Int32)) (k := 5) (lv' := fun v36 => [(5, .int v36), (4, .int v35), (0, .ref q), (1, .int y21), (2, .int y22), (3, .int y23)]) hx hb dX8_season_132 hl rfl (by decide) (by decide) (fun _ => rfl) hf (fun v36 ls hl hf => ?_)
        refine lv_goto (tgt := 67) hx hb dX8_season_135 (by decide) ?_
        exact ih _ _ _ (hzN _ (Option.some.inj hf).symm) _ _ _ hP hD hS (lv_sub hl [2, 3, 4, 5, 1, 0] rfl)
      unfold pX8_season_L67 at hf
      refine lv_iload hx hb dX8_season_67 (lv_at hl 5 rfl) ?_
      refine lv_aload_n hx hb dX8_season_69 rfl (lv_at hl 0 rfl) ?_
      refine gg_get hx hb hts iX8 hown hK hP 0 rfl rfl 10 (by decide) k111 rfl rfl dX8_season_70 ?_
      refine lv_icmp_ge (tgt := 138) hx hb dX8_season_73 (by decide) (fun hc => ?_) (fun hc => ?_)
      · replace hf := gg_pos hf hc
        have hq := hzE _ (Option.some.inj hf).symm
        cases hq
        exact hE _ _ _ hP hD hS (lv_sub hl [0, 1, 2, 3, 4] rfl)
      · replace hf := gg_neg hf hc
        refine lv_aload_n hx hb dX8_season_76 rfl (lv_at hl 0 rfl) ?_
        refine lv_aload_n hx hb dX8_season_77 rfl (lv_at hl 0 rfl) ?_
        refine gg_get hx hb hts iX8 hown hK hP 0 rfl rfl 24 (by decide) k197 rfl rfl dX8_season_78 ?_
        refine lv_ldc2 (v := (6364136223846793005 : Int64)) hx hb hown (hts (.constantLong RX8 203 (6364136223846793005)) (List.mem_of_getElem? (i := 5) rfl)) dX8_season_81 ?_
        refine lv_lmul hx hb dX8_season_84 ?_
        refine lv_ldc2 (v := (1442695040888963407 : Int64)) hx hb hown (hts (.constantLong RX8 205 (1442695040888963407)) (List.mem_of_getElem? (i := 6) rfl)) dX8_season_85 ?_
        refine lv_ladd hx hb dX8_season_88 ?_
        refine gg_topl hf (fun v29 hf => ?_)
        refine gg_put (ws' := [(q, .inr (8, [.ref q_readNeeds, .ref q_readPeople, .ref q_readQuarrels, .int f_readR, .int f_readP, .int f_readQ, .ref q_needs, .ref q_persons, .ref q_quarrels, .int f_rooms, .int f_people, .int f_pairs, .ref q_text, .int f_length, .int f_at, .int f_faultAt, .ref q_now, .int f_acts, .int f_next, .ref q_row, .ref q_least, .ref q_told, .ref q_ways, .ref q_then, .long v29, .ref q_isKept, .ref q_kept])), (q_needs, .inl (cI, 3, .inl f_needs)), (q_persons, .inl (cI, 20, .inl f_persons)), (q_now, .inl (cI, 194, .inl w20))]) hx hb hts iX8 tyX8_ok nmX8 hown hK hP hD hS 0 rfl rfl 24 (by decide) k197 rfl rfl rfl rfl rfl (Nat.le_of_ble_eq_true rfl) dX8_season_89 rfl (fun H locs hP hD hS => ?_)
        refine lv_iload hx hb dX8_season_92 (lv_at hl 4 rfl) ?_
        refine lv_aload_n hx hb dX8_season_94 rfl (lv_at hl 0 rfl) ?_
        refine gg_get hx hb hts iX8 hown hK hP 0 rfl rfl 24 (by decide) k197 rfl rfl dX8_season_95 ?_
        refine lv_bipush (v := (33 : Int32)) hx hb dX8_season_98 (by decide) ?_
        refine lv_lushr hx hb dX8_season_100 rfl ?_
        refine lv_ldc2 (v := (10 : Int64)) hx hb hown (hts (.constantLong RX8 207 (10)) (List.mem_of_getElem? (i := 7) rfl)) dX8_season_101 ?_
        refine lv_lrem hx hb dX8_season_104 (by decide) ?_
        refine lv_aload_n hx hb dX8_season_105 rfl (lv_at hl 0 rfl) ?_
        refine gg_get hx hb hts iX8 hown hK hP 0 rfl rfl 7 (by decide) k22 rfl rfl dX8_season_106 ?_
        refine lv_iconst (v := (4 : Int32)) hx hb dX8_season_109 (by decide) ?_
        refine lv_iload hx hb dX8_season_110 (lv_at hl 5 rfl) ?_
        refine lv_imul hx hb dX8_season_112 ?_
        refine lv_iconst (v := (3 : Int32)) hx hb dX8_season_113 (by decide) ?_
        refine lv_iadd hx hb dX8_season_114 ?_
        refine gg_iald hx hb hK hP 2 0 rfl rfl dX8_season_115 hf (fun hf => ?_)
        refine lv_i2l hx hb dX8_season_116 rfl ?_
        refine W.lcmp hx hb dX8_season_117 ?_
        refine lv_if_ge (tgt := 128) hx hb dX8_season_118 (by decide) (fun hc => ?_) (fun hc => ?_)
        · replace hf := gg_pos hf hc
          refine lv_iconst (v := (0 : Int32)) hx hb dX8_season_128 (by decide) ?_
          exact J129 _ _ _ _ _ _ _ hf hP hD hS (lv_sub hl [0, 1, 2, 3, 5] rfl)
        · replace hf := gg_neg hf hc
          refine lv_iconst (v := (1 : Int32)) hx hb dX8_season_121 (by decide) ?_
          refine lv_iload hx hb dX8_season_122 (lv_at hl 5 rfl) ?_
          refine lv_ishl hx hb dX8_season_124 ?_
          refine lv_goto (tgt := 129) hx hb dX8_season_125 (by decide) ?_
          exact J129 _ _ _ _ _ _ _ hf hP hD hS (lv_sub hl [0, 1, 2, 3, 5] rfl)
  have L56 : ∀ (y13 : Int32) (y14 : Int32) (w18 : Int64) (w19 : (Nat → Int32)), (∀ (H : Heap) (locs : List Loc) (ls : Array Slot), va_P D vwCl [(q, .inr (8, [.ref q_readNeeds, .ref q_readPeople, .ref q_readQuarrels, .int f_readR, .int f_readP, .int f_readQ, .ref q_needs, .ref q_persons, .ref q_quarrels, .int f_rooms, .int f_people, .int f_pairs, .ref q_text, .int f_length, .int f_at, .int f_faultAt, .ref q_now, .int f_acts, .int f_next, .ref q_row, .ref q_least, .ref q_told, .ref q_ways, .ref q_then, .long w18, .ref q_isKept, .ref q_kept])), (q_needs, .inl (cI, 3, .inl f_needs)), (q_persons, .inl (cI, 20, .inl f_persons)), (q_now, .inl (cI, 194, .inl w19))] H → va_D A [(q, .inr (8, [.ref q_readNeeds, .ref q_readPeople, .ref q_readQuarrels, .int f_readR, .int f_readP, .int f_readQ, .ref q_needs, .ref q_persons, .ref q_quarrels, .int f_rooms, .int f_people, .int f_pairs, .ref q_text, .int f_length, .int f_at, .int f_faultAt, .ref q_now, .int f_acts, .int f_next, .ref q_row, .ref q_least, .ref q_told, .ref q_ways, .ref q_then, .long w18, .ref q_isKept, .ref q_kept])), (q_needs, .inl (cI, 3, .inl f_needs)), (q_persons, .inl (cI, 20, .inl f_persons)), (q_now, .inl (cI, 194, .inl w19))] → va_S A s.heap H locs → lv_has ls 6 [(0, .ref q), (1, .int y13)] → W p l e ({ frames := 2, cells := 0, slots := 0, locals := 50 } : Room) s m args below meth c H locs 0 0 Q (F0 m 153 ls [])) → ∀ (nlp : Nat) (w15 : Int64) (w16 : (Nat → Int32)) (y17 : Int32), gg_lpF (fun (s : (Int64 × (Nat → Int32) × Int32)) => pX8_season_L56 f_rooms f_people f_needs f_persons y13 y14 s.1 s.2.1 s.2.2) nlp (w15, w16, y17) = some (w18, w19) → ∀ (H : Heap) (locs : List Loc) (ls : Array Slot), va_P D vwCl [(q, .inr (8, [.ref q_readNeeds, .ref q_readPeople, .ref q_readQuarrels, .int f_readR, .int f_readP, .int f_readQ, .ref q_needs, .ref q_persons, .ref q_quarrels, .int f_rooms, .int f_people, .int f_pairs, .ref q_text, .int f_length, .int f_at, .int f_faultAt, .ref q_now, .int f_acts, .int f_next, .ref q_row, .ref q_least, .ref q_told, .ref q_ways, .ref q_then, .long w15, .ref q_isKept, .ref q_kept])), (q_needs, .inl (cI, 3, .inl f_needs)), (q_persons, .inl (cI, 20, .inl f_persons)), (q_now, .inl (cI, 194, .inl w16))] H → va_D A [(q, .inr (8, [.ref q_readNeeds, .ref q_readPeople, .ref q_readQuarrels, .int f_readR, .int f_readP, .int f_readQ, .ref q_needs, .ref q_persons, .ref q_quarrels, .int f_rooms, .int f_people, .int f_pairs, .ref q_text, .int f_length, .int f_at, .int f_faultAt, .ref q_now, .int f_acts, .int f_next, .ref q_row, .ref q_least, .ref q_told, .ref q_ways, .ref q_then, .long w15, .ref q_isKept, .ref q_kept])), (q_needs, .inl (cI, 3, .inl f_needs)), (q_persons, .inl (cI, 20, .inl f_persons)), (q_now, .inl (cI, 194, .inl w16))] → va_S A s.heap H locs → lv_has ls 6 [(0, .ref q), (1, .int y13), (2, .int y14), (3, .int y17)] → W p l e ({ frames := 2, cells := 0, slots := 0, locals := 50 } : Room) s m args below meth c H locs 0 0 Q (F0 m 56 ls []) := by
    intro y13 y14 w18 w19 hE nlp
    induction nlp with
    | zero => intro w15 w16 y17 hf; cases hf
    | succ nlp ih =>
      intro w15 w16 y17 hf H locs ls hP hD hS hl
      obtain ⟨zz, hz, hzE, hzN⟩ := gg_lpF_x hf
      replace hf : pX8_season_L56 f_rooms f_people f_needs f_persons y13 y14 w15 w16 y17 = some zz := hz
      unfold pX8_season_L56 at hf
      refine lv_iload_n hx hb dX8_season_56 rfl (lv_at hl 3 rfl) ?_
      refine lv_iload_n hx hb dX8_season_57 rfl (lv_at hl 2 rfl) ?_
      refine lv_icmp_ge (tgt := 153) hx hb dX8_season_58 (by decide) (fun hc => ?_) (fun hc => ?_)
      · replace hf := gg_pos hf hc
        have hq := hzE _ (Option.some.inj hf).symm
        cases hq
        exact hE _ _ _ hP hD hS (lv_sub hl [0, 1] rfl)
      · replace hf := gg_neg hf hc
        refine lv_iconst (v := (0 : Int32)) hx hb dX8_season_61 (by decide) ?_
        refine lv_istore (lv' := [(4, .int (0 : Int32)), (0, .ref q), (1, .int y13), (2, .int y14), (3, .int y17)]) hx hb dX8_season_62 hl (by decide) rfl (fun ls hl => ?_)
        refine lv_iconst (v := (0 : Int32)) hx hb dX8_season_64 (by decide) ?_
        refine lv_istore (lv' := [(5, .int (0 : Int32)), (4, .int (0 : Int32)), (0, .ref q), (1, .int y13), (2, .int y14), (3, .int y17)]) hx hb dX8_season_65 hl (by decide) rfl (fun ls hl => ?_)
        obtain ⟨w37, y38, hlp, hf⟩ := gg_c2_x hf
        obtain ⟨nlp, hlp⟩ := gg_lp_x hlp
        refine L67 _ _ _ _ _ _ (fun H locs ls hP hD hS hl => ?_) nlp _ _ _ hlp _ _ _ hP hD hS (lv_sub hl [2, 3, 4, 5, 1, 0] rfl)
        refine lv_aload_n hx hb dX8_season_138 rfl (lv_at hl 0 rfl) ?_
        refine lv_iconst (v := (1 : Int32)) hx hb dX8_season_139 (by decide) ?_
        refine lv_iload hx hb dX8_season_140 (lv_at hl 4 rfl) ?_
        refine lv_iconst (v := (0 : Int32)) hx hb dX8_season_142 (by decide) ?_
        obtain ⟨r39, u40, hu, hf⟩ := gg_c2_x hf
        refine gg_callV (wr := []) (w2 := fun _ => [(q, .inr (8, [.ref q_readNeeds, .ref q_readPeople, .ref q_readQuarrels, .int f_readR, .int f_readP, .int f_readQ, .ref q_needs, .ref q_persons, .ref q_quarrels, .int f_rooms, .int f_people, .int f_pairs, .ref q_text, .int f_length, .int f_at, .int f_faultAt, .ref q_now, .int f_acts, .int f_next, .ref q_row, .ref q_least, .ref q_told, .ref q_ways, .ref q_then, .long w37, .ref q_isKept, .ref q_kept])), (q_needs, .inl (cI, 3, .inl f_needs)), (q_persons, .inl (cI, 20, .inl f_persons)), (q_now, .inl (cI, 194, .inl u40))]) ⟨hx, hb, hml, hown, hts⟩ (mX8_dine l D cI cJ cZ cR q q_needs q_persons q_now q_readNeeds q_readPeople q_readQuarrels q_quarrels q_text q_row q_least q_told q_ways q_then q_isKept q_kept f_readR f_readP f_readQ f_rooms f_people f_pairs f_length f_at f_faultAt f_acts f_next w37 f_needs f_persons w16 _ _ _ r39 u40 hu) (cwV 3 hts gX8_season_X8_dine rfl rfl rfl (by decide +kernel) ⟨Nat.le_of_ble_eq_true rfl, Nat.le_of_ble_eq_true rfl⟩) hK hP hD hS hA 0 rfl rfl rfl rfl hl.1 rfl (Nat.le_of_ble_eq_true rfl) dX8_season_143 ⟨Nat.le_of_ble_eq_true rfl, Nat.le_of_ble_eq_true rfl⟩ [0, 1, 2, 3] [] rfl rfl rfl rfl rfl [0, 1, 2, 3] rfl (fun _ => rfl) (fun _ H locs hP hD hS => ?_)
        refine gg_st_i ?_
        refine lv_pop hx hb dX8_season_146 rfl ?_
        refine gg_iinc (cst := (1 : Int32)) (k := 3) (lv' := fun v41 => [(3, .int v41), (0, .ref q), (1, .int y13), (2, .int y14), (4, .int y38)]) hx hb dX8_season_147 hl rfl (by decide) (by decide) (fun _ => rfl) hf (fun v41 ls hl hf => ?_)
        refine lv_goto (tgt := 56) hx hb dX8_season_150 (by decide) ?_
        exact ih _ _ _ (hzN _ (Option.some.inj hf).symm) _ _ _ hP hD hS (lv_sub hl [1, 2, 3, 0] rfl)
  unfold pX8_season at hf
  refine lv_aload_n hx hb dX8_season_0 rfl (lv_at hl 0 rfl) ?_
  refine lv_iload_n hx hb dX8_season_1 rfl (lv_at hl 1 rfl) ?_
  obtain ⟨r1, hu, hf⟩ := gg_c1_x hf
  refine gg_callV (wr := [(q_needs, .inl (cI, 3, .inl f_needs)), (q_persons, .inl (cI, 20, .inl f_persons)), (q_now, .inl (cI, 194, .inl f_now))]) (w2 := fun _ => [(q, .inr (8, [.ref q_readNeeds, .ref q_readPeople, .ref q_readQuarrels, .int f_readR, .int f_readP, .int f_readQ, .ref q_needs, .ref q_persons, .ref q_quarrels, .int f_rooms, .int f_people, .int f_pairs, .ref q_text, .int f_length, .int f_at, .int f_faultAt, .ref q_now, .int f_acts, .int f_next, .ref q_row, .ref q_least, .ref q_told, .ref q_ways, .ref q_then, .long f_seed, .ref q_isKept, .ref q_kept])), (q_needs, .inl (cI, 3, .inl f_needs)), (q_persons, .inl (cI, 20, .inl f_persons)), (q_now, .inl (cI, 194, .inl f_now))]) ⟨hx, hb, hml, hown, hts⟩ (mX8_isRoom l D cI cJ cZ cR q q_readNeeds q_readPeople q_readQuarrels q_needs q_persons q_quarrels q_text q_now q_row q_least q_told q_ways q_then q_isKept q_kept f_readR f_readP f_readQ f_rooms f_people f_pairs f_length f_at f_faultAt f_acts f_next f_seed _ r1 hu) (cwV 1 hts gX8_season_X8_isRoom rfl rfl rfl (by decide +kernel) ⟨Nat.le_of_ble_eq_true rfl, Nat.le_of_ble_eq_true rfl⟩) hK hP hD hS hA 0 rfl rfl rfl rfl hl.1 rfl (Nat.le_of_ble_eq_true rfl) dX8_season_2 ⟨Nat.le_of_ble_eq_true rfl, Nat.le_of_ble_eq_true rfl⟩ [0] [1, 2, 3] rfl rfl rfl rfl rfl [3, 0, 1, 2] rfl (fun _ => rfl) (fun _ H locs hP hD hS => ?_)
  refine gg_st_i ?_
  refine lv_if_ne (tgt := 10) hx hb dX8_season_5 (by decide) (fun hc => ?_) (fun hc => ?_)
  · replace hf := gg_neg hf hc
    refine lv_iload_n hx hb dX8_season_10 rfl (lv_at hl 2 rfl) ?_
    refine lv_i2l hx hb dX8_season_11 rfl ?_
    refine lv_lconst (v := (1 : Int64)) hx hb dX8_season_12 (by decide) ?_
    refine lv_ldc2 (v := (30 : Int64)) hx hb hown (hts (.constantLong RX8 201 (30)) (List.mem_of_getElem? (i := 1) rfl)) dX8_season_13 ?_
    obtain ⟨r2, hu, hf⟩ := gg_c1_x hf
    refine gg_callS (wr := [(q, .inr (8, [.ref q_readNeeds, .ref q_readPeople, .ref q_readQuarrels, .int f_readR, .int f_readP, .int f_readQ, .ref q_needs, .ref q_persons, .ref q_quarrels, .int f_rooms, .int f_people, .int f_pairs, .ref q_text, .int f_length, .int f_at, .int f_faultAt, .ref q_now, .int f_acts, .int f_next, .ref q_row, .ref q_least, .ref q_told, .ref q_ways, .ref q_then, .long f_seed, .ref q_isKept, .ref q_kept])), (q_needs, .inl (cI, 3, .inl f_needs)), (q_persons, .inl (cI, 20, .inl f_persons)), (q_now, .inl (cI, 194, .inl f_now))]) (w2 := fun _ => [(q, .inr (8, [.ref q_readNeeds, .ref q_readPeople, .ref q_readQuarrels, .int f_readR, .int f_readP, .int f_readQ, .ref q_needs, .ref q_persons, .ref q_quarrels, .int f_rooms, .int f_people, .int f_pairs, .ref q_text, .int f_length, .int f_at, .int f_faultAt, .ref q_now, .int f_acts, .int f_next, .ref q_row, .ref q_least, .ref q_told, .ref q_ways, .ref q_then, .long f_seed, .ref q_isKept, .ref q_kept])), (q_needs, .inl (cI, 3, .inl f_needs)), (q_persons, .inl (cI, 20, .inl f_persons)), (q_now, .inl (cI, 194, .inl f_now))]) ⟨hx, hb, hml, hown, hts⟩ (mX8_in l D cI cJ cZ cR   _ _ _ r2 hu) (va_cwS 3 hts gX8_season_X8_in rfl rfl rfl (by decide +kernel) ⟨Nat.le_of_ble_eq_true rfl, Nat.le_of_ble_eq_true rfl⟩) hK hP hD hS hA rfl hl.1 rfl (Nat.le_of_ble_eq_true rfl) dX8_season_16 ⟨Nat.le_of_ble_eq_true rfl, Nat.le_of_ble_eq_true rfl⟩ [] [0, 1, 2, 3] rfl rfl rfl rfl rfl [0, 1, 2, 3] rfl (fun _ => rfl) (fun _ H locs hP hD hS => ?_)
    refine gg_st_i ?_
    refine lv_if_ne (tgt := 25) hx hb dX8_season_19 (by decide) (fun hc => ?_) (fun hc => ?_)
    · replace hf := gg_neg hf hc
      refine lv_iconst (v := (0 : Int32)) hx hb dX8_season_25 (by decide) ?_
      refine lv_istore_n (lv' := [(3, .int (0 : Int32)), (0, .ref q), (1, .int x1), (2, .int x2)]) hx hb dX8_season_26 rfl hl (by decide) rfl (fun ls hl => ?_)
      obtain ⟨w12, hlp, hf⟩ := gg_c1_x hf
      obtain ⟨nlp, hlp⟩ := gg_lp_x hlp
      refine L27 _ _ _ _ (fun H locs ls hP hD hS hl => ?_) nlp _ _ hlp _ _ _ hP hD hS (lv_sub hl [1, 2, 3, 0] rfl)
      refine lv_iconst (v := (0 : Int32)) hx hb dX8_season_54 (by decide) ?_
      refine lv_istore_n (lv' := [(3, .int (0 : Int32)), (0, .ref q), (1, .int x1), (2, .int x2)]) hx hb dX8_season_55 rfl hl (by decide) rfl (fun ls hl => ?_)
      obtain ⟨w42, w43, hlp, hf⟩ := gg_c2_x hf
      obtain ⟨nlp, hlp⟩ := gg_lp_x hlp
      refine L56 _ _ _ _ (fun H locs ls hP hD hS hl => ?_) nlp _ _ _ hlp _ _ _ hP hD hS (lv_sub hl [1, 2, 3, 0] rfl)
      refine lv_aload_n hx hb dX8_season_153 rfl (lv_at hl 0 rfl) ?_
      refine gg_get hx hb hts iX8 hown hK hP 0 rfl rfl 16 (by decide) k31 rfl rfl dX8_season_154 ?_
      refine lv_sipush (v := (187 : Int32)) hx hb dX8_season_157 (by decide) ?_
      refine lv_iload_n hx hb dX8_season_160 rfl (lv_at hl 1 rfl) ?_
      refine lv_iadd hx hb dX8_season_161 ?_
      refine gg_iald hx hb hK hP 3 0 rfl rfl dX8_season_162 hf (fun hf => ?_)
      cases hf
      rw [hQ]
      exact gg_iret hx hb hr hlocks hS (Nat.le_of_ble_eq_true rfl) (Nat.le_of_ble_eq_true rfl) dX8_season_163 () rfl hP hD
    · replace hf := gg_pos hf hc
      refine lv_bipush (v := (-2 : Int32)) hx hb dX8_season_22 (by decide) ?_
      cases hf
      rw [hQ]
      exact gg_iret hx hb hr hlocks hS (Nat.le_of_ble_eq_true rfl) (Nat.le_of_ble_eq_true rfl) dX8_season_24 () rfl hP hD
  · replace hf := gg_pos hf hc
    refine lv_iconst (v := (-1 : Int32)) hx hb dX8_season_8 (by decide) ?_
    cases hf
    rw [hQ]
    exact gg_iret hx hb hr hlocks hS (Nat.le_of_ble_eq_true rfl) (Nat.le_of_ble_eq_true rfl) dX8_season_9 () rfl hP hD
set_option maxHeartbeats 4000000 in
set_option maxRecDepth 100000 in
theorem mX8_keep (l : Launch) (D : va_G) (cI cJ cZ cR : ClassId) (q q_now q_isKept q_kept q_readNeeds q_readPeople q_readQuarrels q_needs q_persons q_quarrels q_text q_row q_least q_told q_ways q_then : Nat) (f_readR : Int32) (f_readP : Int32) (f_readQ : Int32) (f_rooms : Int32) (f_people : Int32) (f_pairs : Int32) (f_length : Int32) (f_at : Int32) (f_faultAt : Int32) (f_acts : Int32) (f_next : Int32) (f_seed : Int64) (f_now : (Nat → Int32)) (f_isKept : (Nat → Int32)) (f_kept : (Nat → Int32)) (x1 : Int32) (rr : Int32) (nf_isKept : (Nat → Int32)) (nf_kept : (Nat → Int32)) (hf : pX8_keep f_now f_isKept f_kept x1 = some (rr, nf_isKept, nf_kept)) : gg_M gN vwCl (gg_T cI cJ cZ cR) l D yX8_keep wsX8_keep ({ frames := 1, cells := 0, slots := 0, locals := 25 } : Room) [.ref q, .int x1] [(q, .inr (8, [.ref q_readNeeds, .ref q_readPeople, .ref q_readQuarrels, .int f_readR, .int f_readP, .int f_readQ, .ref q_needs, .ref q_persons, .ref q_quarrels, .int f_rooms, .int f_people, .int f_pairs, .ref q_text, .int f_length, .int f_at, .int f_faultAt, .ref q_now, .int f_acts, .int f_next, .ref q_row, .ref q_least, .ref q_told, .ref q_ways, .ref q_then, .long f_seed, .ref q_isKept, .ref q_kept])), (q_now, .inl (cI, 194, .inl f_now)), (q_isKept, .inl (cZ, 2, .inl f_isKept)), (q_kept, .inl (cI, 194, .inl f_kept))] (fun _ : Unit => some (.int rr)) (fun _ => [(q, .inr (8, [.ref q_readNeeds, .ref q_readPeople, .ref q_readQuarrels, .int f_readR, .int f_readP, .int f_readQ, .ref q_needs, .ref q_persons, .ref q_quarrels, .int f_rooms, .int f_people, .int f_pairs, .ref q_text, .int f_length, .int f_at, .int f_faultAt, .ref q_now, .int f_acts, .int f_next, .ref q_row, .ref q_least, .ref q_told, .ref q_ways, .ref q_then, .long f_seed, .ref q_isKept, .ref q_kept])), (q_now, .inl (cI, 194, .inl f_now)), (q_isKept, .inl (cZ, 2, .inl nf_isKept)), (q_kept, .inl (cI, 194, .inl nf_kept))]) := by
  refine gg_M.of (cc := cX8_keep) (maxL := 3) (rt := (some .int)) (by decide) rfl (Nat.le_of_ble_eq_true rfl) ?_
  intro p e s m below meth c A args Q hQ hx hb hr hml hts hown hlocks hin hA hS hP hK hD ls hl
  replace hown : s.vm.findClass RX8 = some m.cls := hown
  replace hl : lv_has ls 3 [(0, .ref q), (1, .int x1)] := hl
  have k50 := (hts (.fieldLink RX8 50 "AbsentCarpetsModel" "isKept" "[Z") (List.mem_of_getElem? (i := 1) rfl))
  have k54 := (hts (.fieldLink RX8 54 "AbsentCarpetsModel" "kept" "[I") (List.mem_of_getElem? (i := 2) rfl))
  have k31 := (hts (.fieldLink RX8 31 "AbsentCarpetsModel" "now" "[I") (List.mem_of_getElem? (i := 3) rfl))
  have iX8 : ∀ w ∈ wsX80, w ∈ wsX8_keep := fun _ h => List.mem_cons_of_mem _ (List.mem_append_right _ (h))
  have L21 : ∀ (w3 : (Nat → Int32)) (y4 : Int32) (w7 : (Nat → Int32)), (∀ (H : Heap) (locs : List Loc) (ls : Array Slot), va_P D vwCl [(q, .inr (8, [.ref q_readNeeds, .ref q_readPeople, .ref q_readQuarrels, .int f_readR, .int f_readP, .int f_readQ, .ref q_needs, .ref q_persons, .ref q_quarrels, .int f_rooms, .int f_people, .int f_pairs, .ref q_text, .int f_length, .int f_at, .int f_faultAt, .ref q_now, .int f_acts, .int f_next, .ref q_row, .ref q_least, .ref q_told, .ref q_ways, .ref q_then, .long f_seed, .ref q_isKept, .ref q_kept])), (q_now, .inl (cI, 194, .inl f_now)), (q_isKept, .inl (cZ, 2, .inl w3)), (q_kept, .inl (cI, 194, .inl w7))] H → va_D A [(q, .inr (8, [.ref q_readNeeds, .ref q_readPeople, .ref q_readQuarrels, .int f_readR, .int f_readP, .int f_readQ, .ref q_needs, .ref q_persons, .ref q_quarrels, .int f_rooms, .int f_people, .int f_pairs, .ref q_text, .int f_length, .int f_at, .int f_faultAt, .ref q_now, .int f_acts, .int f_next, .ref q_row, .ref q_least, .ref q_told, .ref q_ways, .ref q_then, .long f_seed, .ref q_isKept, .ref q_kept])), (q_now, .inl (cI, 194, .inl f_now)), (q_isKept, .inl (cZ, 2, .inl w3)), (q_kept, .inl (cI, 194, .inl w7))] → va_S A s.heap H locs → lv_has ls 3 [(0, .ref q)] → W p l e ({ frames := 1, cells := 0, slots := 0, locals := 25 } : Room) s m args below meth c H locs 0 0 Q (F0 m 50 ls [])) → ∀ (nlp : Nat) (w5 : (Nat → Int32)) (y6 : Int32), gg_lpF (fun (s : ((Nat → Int32) × Int32)) => pX8_keep_L21 f_now w3 y4 s.1 s.2) nlp (w5, y6) = some w7 → ∀ (H : Heap) (locs : List Loc) (ls : Array Slot), va_P D vwCl [(q, .inr (8, [.ref q_readNeeds, .ref q_readPeople, .ref q_readQuarrels, .int f_readR, .int f_readP, .int f_readQ, .ref q_needs, .ref q_persons, .ref q_quarrels, .int f_rooms, .int f_people, .int f_pairs, .ref q_text, .int f_length, .int f_at, .int f_faultAt, .ref q_now, .int f_acts, .int f_next, .ref q_row, .ref q_least, .ref q_told, .ref q_ways, .ref q_then, .long f_seed, .ref q_isKept, .ref q_kept])), (q_now, .inl (cI, 194, .inl f_now)), (q_isKept, .inl (cZ, 2, .inl w3)), (q_kept, .inl (cI, 194, .inl w5))] H → va_D A [(q, .inr (8, [.ref q_readNeeds, .ref q_readPeople, .ref q_readQuarrels, .int f_readR, .int f_readP, .int f_readQ, .ref q_needs, .ref q_persons, .ref q_quarrels, .int f_rooms, .int f_people, .int f_pairs, .ref q_text, .int f_length, .int f_at, .int f_faultAt, .ref q_now, .int f_acts, .int f_next, .ref q_row, .ref q_least, .ref q_told, .ref q_ways, .ref q_then, .long f_seed, .ref q_isKept, .ref q_kept])), (q_now, .inl (cI, 194, .inl f_now)), (q_isKept, .inl (cZ, 2, .inl w3)), (q_kept, .inl (cI, 194, .inl w5))] → va_S A s.heap H locs → lv_has ls 3 [(0, .ref q), (1, .int y4), (2, .int y6)] → W p l e ({ frames := 1, cells := 0, slots := 0, locals := 25 } : Room) s m args below meth c H locs 0 0 Q (F0 m 21 ls []) := by
    intro w3 y4 w7 hE nlp
    induction nlp with
    | zero => intro w5 y6 hf; cases hf
    | succ nlp ih =>
      intro w5 y6 hf H locs ls hP hD hS hl
      obtain ⟨zz, hz, hzE, hzN⟩ := gg_lpF_x hf
      replace hf : pX8_keep_L21 f_now w3 y4 w5 y6 = some zz := hz
      unfold pX8_keep_L21 at hf
      refine lv_iload_n hx hb dX8_keep_21 rfl (lv_at hl 2 rfl) ?_
      refine lv_bipush (v := (97 : Int32)) hx hb dX8_keep_22 (by decide) ?_
      refine lv_icmp_ge (tgt := 50) hx hb dX8_keep_24 (by decide) (fun hc => ?_) (fun hc => ?_)
      · replace hf := gg_pos hf hc
        have hq := hzE _ (Option.some.inj hf).symm
        cases hq
        exact hE _ _ _ hP hD hS (lv_sub hl [0] rfl)
      · replace hf := gg_neg hf hc
        refine lv_aload_n hx hb dX8_keep_27 rfl (lv_at hl 0 rfl) ?_
        refine gg_get hx hb hts iX8 hown hK hP 0 rfl rfl 26 (by decide) k54 rfl rfl dX8_keep_28 ?_
        refine lv_bipush (v := (97 : Int32)) hx hb dX8_keep_31 (by decide) ?_
        refine lv_iload_n hx hb dX8_keep_33 rfl (lv_at hl 1 rfl) ?_
        refine lv_imul hx hb dX8_keep_34 ?_
        refine lv_iload_n hx hb dX8_keep_35 rfl (lv_at hl 2 rfl) ?_
        refine lv_iadd hx hb dX8_keep_36 ?_
        refine lv_aload_n hx hb dX8_keep_37 rfl (lv_at hl 0 rfl) ?_
        refine gg_get hx hb hts iX8 hown hK hP 0 rfl rfl 16 (by decide) k31 rfl rfl dX8_keep_38 ?_
        refine lv_iload_n hx hb dX8_keep_41 rfl (lv_at hl 2 rfl) ?_
        refine gg_iald hx hb hK hP 1 0 rfl rfl dX8_keep_42 hf (fun hf => ?_)
        refine gg_iast (ws' := fun g9 => [(q, .inr (8, [.ref q_readNeeds, .ref q_readPeople, .ref q_readQuarrels, .int f_readR, .int f_readP, .int f_readQ, .ref q_needs, .ref q_persons, .ref q_quarrels, .int f_rooms, .int f_people, .int f_pairs, .ref q_text, .int f_length, .int f_at, .int f_faultAt, .ref q_now, .int f_acts, .int f_next, .ref q_row, .ref q_least, .ref q_told, .ref q_ways, .ref q_then, .long f_seed, .ref q_isKept, .ref q_kept])), (q_now, .inl (cI, 194, .inl f_now)), (q_isKept, .inl (cZ, 2, .inl w3)), (q_kept, .inl (cI, 194, .inl g9))]) hx hb hK hP hD hS 3 0 rfl rfl dX8_keep_43 (fun _ => rfl) hf (fun g9 H locs hP hD hS hf => ?_)
        refine gg_iinc (cst := (1 : Int32)) (k := 2) (lv' := fun v10 => [(2, .int v10), (0, .ref q), (1, .int y4)]) hx hb dX8_keep_44 hl rfl (by decide) (by decide) (fun _ => rfl) hf (fun v10 ls hl hf => ?_)
        refine lv_goto (tgt := 21) hx hb dX8_keep_47 (by decide) ?_
        exact ih _ _ (hzN _ (Option.some.inj hf).symm) _ _ _ hP hD hS (lv_sub hl [1, 2, 0] rfl)
  unfold pX8_keep at hf
  refine lv_iload_n hx hb dX8_keep_0 rfl (lv_at hl 1 rfl) ?_
  refine lv_i2l hx hb dX8_keep_1 rfl ?_
  refine lv_lconst (v := (0 : Int64)) hx hb dX8_keep_2 (by decide) ?_
  refine lv_lconst (v := (1 : Int64)) hx hb dX8_keep_3 (by decide) ?_
  obtain ⟨r1, hu, hf⟩ := gg_c1_x hf
  refine gg_callS (wr := [(q, .inr (8, [.ref q_readNeeds, .ref q_readPeople, .ref q_readQuarrels, .int f_readR, .int f_readP, .int f_readQ, .ref q_needs, .ref q_persons, .ref q_quarrels, .int f_rooms, .int f_people, .int f_pairs, .ref q_text, .int f_length, .int f_at, .int f_faultAt, .ref q_now, .int f_acts, .int f_next, .ref q_row, .ref q_least, .ref q_told, .ref q_ways, .ref q_then, .long f_seed, .ref q_isKept, .ref q_kept])), (q_now, .inl (cI, 194, .inl f_now)), (q_isKept, .inl (cZ, 2, .inl f_isKept)), (q_kept, .inl (cI, 194, .inl f_kept))]) (w2 := fun _ => [(q, .inr (8, [.ref q_readNeeds, .ref q_readPeople, .ref q_readQuarrels, .int f_readR, .int f_readP, .int f_readQ, .ref q_needs, .ref q_persons, .ref q_quarrels, .int f_rooms, .int f_people, .int f_pairs, .ref q_text, .int f_length, .int f_at, .int f_faultAt, .ref q_now, .int f_acts, .int f_next, .ref q_row, .ref q_least, .ref q_told, .ref q_ways, .ref q_then, .long f_seed, .ref q_isKept, .ref q_kept])), (q_now, .inl (cI, 194, .inl f_now)), (q_isKept, .inl (cZ, 2, .inl f_isKept)), (q_kept, .inl (cI, 194, .inl f_kept))]) ⟨hx, hb, hml, hown, hts⟩ (mX8_in l D cI cJ cZ cR   _ _ _ r1 hu) (va_cwS 3 hts gX8_keep_X8_in rfl rfl rfl (by decide +kernel) ⟨Nat.le_of_ble_eq_true rfl, Nat.le_of_ble_eq_true rfl⟩) hK hP hD hS hA rfl hl.1 rfl (Nat.le_of_ble_eq_true rfl) dX8_keep_4 ⟨Nat.le_of_ble_eq_true rfl, Nat.le_of_ble_eq_true rfl⟩ [] [0, 1, 2, 3] rfl rfl rfl rfl rfl [0, 1, 2, 3] rfl (fun _ => rfl) (fun _ H locs hP hD hS => ?_)
  refine gg_st_i ?_
  refine lv_if_ne (tgt := 12) hx hb dX8_keep_7 (by decide) (fun hc => ?_) (fun hc => ?_)
  · replace hf := gg_neg hf hc
    refine lv_aload_n hx hb dX8_keep_12 rfl (lv_at hl 0 rfl) ?_
    refine gg_get hx hb hts iX8 hown hK hP 0 rfl rfl 25 (by decide) k50 rfl rfl dX8_keep_13 ?_
    refine lv_iload_n hx hb dX8_keep_16 rfl (lv_at hl 1 rfl) ?_
    refine lv_iconst (v := (1 : Int32)) hx hb dX8_keep_17 (by decide) ?_
    refine gg_zast (ws' := fun g2 => [(q, .inr (8, [.ref q_readNeeds, .ref q_readPeople, .ref q_readQuarrels, .int f_readR, .int f_readP, .int f_readQ, .ref q_needs, .ref q_persons, .ref q_quarrels, .int f_rooms, .int f_people, .int f_pairs, .ref q_text, .int f_length, .int f_at, .int f_faultAt, .ref q_now, .int f_acts, .int f_next, .ref q_row, .ref q_least, .ref q_told, .ref q_ways, .ref q_then, .long f_seed, .ref q_isKept, .ref q_kept])), (q_now, .inl (cI, 194, .inl f_now)), (q_isKept, .inl (cZ, 2, .inl g2)), (q_kept, .inl (cI, 194, .inl f_kept))]) hx hb hK hP hD hS 2 2 rfl rfl (by decide) dX8_keep_18 (fun _ => rfl) hf (fun g2 H locs hP hD hS hf => ?_)
    refine lv_iconst (v := (0 : Int32)) hx hb dX8_keep_19 (by decide) ?_
    refine lv_istore_n (lv' := [(2, .int (0 : Int32)), (0, .ref q), (1, .int x1)]) hx hb dX8_keep_20 rfl hl (by decide) rfl (fun ls hl => ?_)
    obtain ⟨w11, hlp, hf⟩ := gg_c1_x hf
    obtain ⟨nlp, hlp⟩ := gg_lp_x hlp
    refine L21 _ _ _ (fun H locs ls hP hD hS hl => ?_) nlp _ _ hlp _ _ _ hP hD hS (lv_sub hl [1, 2, 0] rfl)
    refine lv_aload_n hx hb dX8_keep_50 rfl (lv_at hl 0 rfl) ?_
    refine gg_get hx hb hts iX8 hown hK hP 0 rfl rfl 16 (by decide) k31 rfl rfl dX8_keep_51 ?_
    refine lv_bipush (v := (96 : Int32)) hx hb dX8_keep_54 (by decide) ?_
    refine gg_iald hx hb hK hP 1 0 rfl rfl dX8_keep_56 hf (fun hf => ?_)
    cases hf
    rw [hQ]
    exact gg_iret hx hb hr hlocks hS (Nat.le_of_ble_eq_true rfl) (Nat.le_of_ble_eq_true rfl) dX8_keep_57 () rfl hP hD
  · replace hf := gg_pos hf hc
    refine lv_iconst (v := (-1 : Int32)) hx hb dX8_keep_10 (by decide) ?_
    cases hf
    rw [hQ]
    exact gg_iret hx hb hr hlocks hS (Nat.le_of_ble_eq_true rfl) (Nat.le_of_ble_eq_true rfl) dX8_keep_11 () rfl hP hD
set_option maxHeartbeats 4000000 in
set_option maxRecDepth 100000 in
theorem mX8_again (l : Launch) (D : va_G) (cI cJ cZ cR : ClassId) (q q_now q_isKept q_kept q_readNeeds q_readPeople q_readQuarrels q_needs q_persons q_quarrels q_text q_row q_least q_told q_ways q_then : Nat) (f_readR : Int32) (f_readP : Int32) (f_readQ : Int32) (f_rooms : Int32) (f_people : Int32) (f_pairs : Int32) (f_length : Int32) (f_at : Int32) (f_faultAt : Int32) (f_acts : Int32) (f_next : Int32) (f_seed : Int64) (f_now : (Nat → Int32)) (f_isKept : (Nat → Int32)) (f_kept : (Nat → Int32)) (x1 : Int32) (rr : Int32) (nf_acts : Int32) (nf_now : (Nat → Int32)) (hf : pX8_again f_acts f_now f_isKept f_kept x1 = some (rr, nf_acts, nf_now)) : gg_M gN vwCl (gg_T cI cJ cZ cR) l D yX8_again wsX8_again ({ frames := 1, cells := 0, slots := 0, locals := 25 } : Room) [.ref q, .int x1] [(q, .inr (8, [.ref q_readNeeds, .ref q_readPeople, .ref q_readQuarrels, .int f_readR, .int f_readP, .int f_readQ, .ref q_needs, .ref q_persons, .ref q_quarrels, .int f_rooms, .int f_people, .int f_pairs, .ref q_text, .int f_length, .int f_at, .int f_faultAt, .ref q_now, .int f_acts, .int f_next, .ref q_row, .ref q_least, .ref q_told, .ref q_ways, .ref q_then, .long f_seed, .ref q_isKept, .ref q_kept])), (q_now, .inl (cI, 194, .inl f_now)), (q_isKept, .inl (cZ, 2, .inl f_isKept)), (q_kept, .inl (cI, 194, .inl f_kept))] (fun _ : Unit => some (.int rr)) (fun _ => [(q, .inr (8, [.ref q_readNeeds, .ref q_readPeople, .ref q_readQuarrels, .int f_readR, .int f_readP, .int f_readQ, .ref q_needs, .ref q_persons, .ref q_quarrels, .int f_rooms, .int f_people, .int f_pairs, .ref q_text, .int f_length, .int f_at, .int f_faultAt, .ref q_now, .int nf_acts, .int f_next, .ref q_row, .ref q_least, .ref q_told, .ref q_ways, .ref q_then, .long f_seed, .ref q_isKept, .ref q_kept])), (q_now, .inl (cI, 194, .inl nf_now)), (q_isKept, .inl (cZ, 2, .inl f_isKept)), (q_kept, .inl (cI, 194, .inl f_kept))]) := by
  refine gg_M.of (cc := cX8_again) (maxL := 3) (rt := (some .int)) (by decide) rfl (Nat.le_of_ble_eq_true rfl) ?_
  intro p e s m below meth c A args Q hQ hx hb hr hml hts hown hlocks hin hA hS hP hK hD ls hl
  replace hown : s.vm.findClass RX8 = some m.cls := hown
  replace hl : lv_has ls 3 [(0, .ref q), (1, .int x1)] := hl
  have k50 := (hts (.fieldLink RX8 50 "AbsentCarpetsModel" "isKept" "[Z") (List.mem_of_getElem? (i := 1) rfl))
  have k31 := (hts (.fieldLink RX8 31 "AbsentCarpetsModel" "now" "[I") (List.mem_of_getElem? (i := 2) rfl))
  have k54 := (hts (.fieldLink RX8 54 "AbsentCarpetsModel" "kept" "[I") (List.mem_of_getElem? (i := 3) rfl))
  have k117 := (hts (.fieldLink RX8 117 "AbsentCarpetsModel" "acts" "I") (List.mem_of_getElem? (i := 4) rfl))
  have iX8 : ∀ w ∈ wsX80, w ∈ wsX8_again := fun _ h => List.mem_cons_of_mem _ (List.mem_append_right _ (h))
  have L26 : ∀ (w3 : Int32) (y4 : Int32) (w7 : (Nat → Int32)), (∀ (H : Heap) (locs : List Loc) (ls : Array Slot), va_P D vwCl [(q, .inr (8, [.ref q_readNeeds, .ref q_readPeople, .ref q_readQuarrels, .int f_readR, .int f_readP, .int f_readQ, .ref q_needs, .ref q_persons, .ref q_quarrels, .int f_rooms, .int f_people, .int f_pairs, .ref q_text, .int f_length, .int f_at, .int f_faultAt, .ref q_now, .int w3, .int f_next, .ref q_row, .ref q_least, .ref q_told, .ref q_ways, .ref q_then, .long f_seed, .ref q_isKept, .ref q_kept])), (q_now, .inl (cI, 194, .inl w7)), (q_isKept, .inl (cZ, 2, .inl f_isKept)), (q_kept, .inl (cI, 194, .inl f_kept))] H → va_D A [(q, .inr (8, [.ref q_readNeeds, .ref q_readPeople, .ref q_readQuarrels, .int f_readR, .int f_readP, .int f_readQ, .ref q_needs, .ref q_persons, .ref q_quarrels, .int f_rooms, .int f_people, .int f_pairs, .ref q_text, .int f_length, .int f_at, .int f_faultAt, .ref q_now, .int w3, .int f_next, .ref q_row, .ref q_least, .ref q_told, .ref q_ways, .ref q_then, .long f_seed, .ref q_isKept, .ref q_kept])), (q_now, .inl (cI, 194, .inl w7)), (q_isKept, .inl (cZ, 2, .inl f_isKept)), (q_kept, .inl (cI, 194, .inl f_kept))] → va_S A s.heap H locs → lv_has ls 3 [(0, .ref q)] → W p l e ({ frames := 1, cells := 0, slots := 0, locals := 25 } : Room) s m args below meth c H locs 0 0 Q (F0 m 55 ls [])) → ∀ (nlp : Nat) (w5 : (Nat → Int32)) (y6 : Int32), gg_lpF (fun (s : ((Nat → Int32) × Int32)) => pX8_again_L26 f_isKept f_kept w3 y4 s.1 s.2) nlp (w5, y6) = some w7 → ∀ (H : Heap) (locs : List Loc) (ls : Array Slot), va_P D vwCl [(q, .inr (8, [.ref q_readNeeds, .ref q_readPeople, .ref q_readQuarrels, .int f_readR, .int f_readP, .int f_readQ, .ref q_needs, .ref q_persons, .ref q_quarrels, .int f_rooms, .int f_people, .int f_pairs, .ref q_text, .int f_length, .int f_at, .int f_faultAt, .ref q_now, .int w3, .int f_next, .ref q_row, .ref q_least, .ref q_told, .ref q_ways, .ref q_then, .long f_seed, .ref q_isKept, .ref q_kept])), (q_now, .inl (cI, 194, .inl w5)), (q_isKept, .inl (cZ, 2, .inl f_isKept)), (q_kept, .inl (cI, 194, .inl f_kept))] H → va_D A [(q, .inr (8, [.ref q_readNeeds, .ref q_readPeople, .ref q_readQuarrels, .int f_readR, .int f_readP, .int f_readQ, .ref q_needs, .ref q_persons, .ref q_quarrels, .int f_rooms, .int f_people, .int f_pairs, .ref q_text, .int f_length, .int f_at, .int f_faultAt, .ref q_now, .int w3, .int f_next, .ref q_row, .ref q_least, .ref q_told, .ref q_ways, .ref q_then, .long f_seed, .ref q_isKept, .ref q_kept])), (q_now, .inl (cI, 194, .inl w5)), (q_isKept, .inl (cZ, 2, .inl f_isKept)), (q_kept, .inl (cI, 194, .inl f_kept))] → va_S A s.heap H locs → lv_has ls 3 [(0, .ref q), (1, .int y4), (2, .int y6)] → W p l e ({ frames := 1, cells := 0, slots := 0, locals := 25 } : Room) s m args below meth c H locs 0 0 Q (F0 m 26 ls []) := by
    intro w3 y4 w7 hE nlp
    induction nlp with
    | zero => intro w5 y6 hf; cases hf
    | succ nlp ih =>
      intro w5 y6 hf H locs ls hP hD hS hl
      obtain ⟨zz, hz, hzE, hzN⟩ := gg_lpF_x hf
      replace hf : pX8_again_L26 f_isKept f_kept w3 y4 w5 y6 = some zz := hz
      unfold pX8_again_L26 at hf
      refine lv_iload_n hx hb dX8_again_26 rfl (lv_at hl 2 rfl) ?_
      refine lv_bipush (v := (97 : Int32)) hx hb dX8_again_27 (by decide) ?_
      refine lv_icmp_ge (tgt := 55) hx hb dX8_again_29 (by decide) (fun hc => ?_) (fun hc => ?_)
      · replace hf := gg_pos hf hc
        have hq := hzE _ (Option.some.inj hf).symm
        cases hq
        exact hE _ _ _ hP hD hS (lv_sub hl [0] rfl)
      · replace hf := gg_neg hf hc
        refine lv_aload_n hx hb dX8_again_32 rfl (lv_at hl 0 rfl) ?_
        refine gg_get hx hb hts iX8 hown hK hP 0 rfl rfl 16 (by decide) k31 rfl rfl dX8_again_33 ?_
        refine lv_iload_n hx hb dX8_again_36 rfl (lv_at hl 2 rfl) ?_
        refine lv_aload_n hx hb dX8_again_37 rfl (lv_at hl 0 rfl) ?_
        refine gg_get hx hb hts iX8 hown hK hP 0 rfl rfl 26 (by decide) k54 rfl rfl dX8_again_38 ?_
        refine lv_bipush (v := (97 : Int32)) hx hb dX8_again_41 (by decide) ?_
        refine lv_iload_n hx hb dX8_again_43 rfl (lv_at hl 1 rfl) ?_
        refine lv_imul hx hb dX8_again_44 ?_
        refine lv_iload_n hx hb dX8_again_45 rfl (lv_at hl 2 rfl) ?_
        refine lv_iadd hx hb dX8_again_46 ?_
        refine gg_iald hx hb hK hP 3 0 rfl rfl dX8_again_47 hf (fun hf => ?_)
        refine gg_iast (ws' := fun g9 => [(q, .inr (8, [.ref q_readNeeds, .ref q_readPeople, .ref q_readQuarrels, .int f_readR, .int f_readP, .int f_readQ, .ref q_needs, .ref q_persons, .ref q_quarrels, .int f_rooms, .int f_people, .int f_pairs, .ref q_text, .int f_length, .int f_at, .int f_faultAt, .ref q_now, .int w3, .int f_next, .ref q_row, .ref q_least, .ref q_told, .ref q_ways, .ref q_then, .long f_seed, .ref q_isKept, .ref q_kept])), (q_now, .inl (cI, 194, .inl g9)), (q_isKept, .inl (cZ, 2, .inl f_isKept)), (q_kept, .inl (cI, 194, .inl f_kept))]) hx hb hK hP hD hS 1 0 rfl rfl dX8_again_48 (fun _ => rfl) hf (fun g9 H locs hP hD hS hf => ?_)
        refine gg_iinc (cst := (1 : Int32)) (k := 2) (lv' := fun v10 => [(2, .int v10), (0, .ref q), (1, .int y4)]) hx hb dX8_again_49 hl rfl (by decide) (by decide) (fun _ => rfl) hf (fun v10 ls hl hf => ?_)
        refine lv_goto (tgt := 26) hx hb dX8_again_52 (by decide) ?_
        exact ih _ _ (hzN _ (Option.some.inj hf).symm) _ _ _ hP hD hS (lv_sub hl [1, 2, 0] rfl)
  unfold pX8_again at hf
  refine lv_iload_n hx hb dX8_again_0 rfl (lv_at hl 1 rfl) ?_
  refine lv_i2l hx hb dX8_again_1 rfl ?_
  refine lv_lconst (v := (0 : Int64)) hx hb dX8_again_2 (by decide) ?_
  refine lv_lconst (v := (1 : Int64)) hx hb dX8_again_3 (by decide) ?_
  obtain ⟨r1, hu, hf⟩ := gg_c1_x hf
  refine gg_callS (wr := [(q, .inr (8, [.ref q_readNeeds, .ref q_readPeople, .ref q_readQuarrels, .int f_readR, .int f_readP, .int f_readQ, .ref q_needs, .ref q_persons, .ref q_quarrels, .int f_rooms, .int f_people, .int f_pairs, .ref q_text, .int f_length, .int f_at, .int f_faultAt, .ref q_now, .int f_acts, .int f_next, .ref q_row, .ref q_least, .ref q_told, .ref q_ways, .ref q_then, .long f_seed, .ref q_isKept, .ref q_kept])), (q_now, .inl (cI, 194, .inl f_now)), (q_isKept, .inl (cZ, 2, .inl f_isKept)), (q_kept, .inl (cI, 194, .inl f_kept))]) (w2 := fun _ => [(q, .inr (8, [.ref q_readNeeds, .ref q_readPeople, .ref q_readQuarrels, .int f_readR, .int f_readP, .int f_readQ, .ref q_needs, .ref q_persons, .ref q_quarrels, .int f_rooms, .int f_people, .int f_pairs, .ref q_text, .int f_length, .int f_at, .int f_faultAt, .ref q_now, .int f_acts, .int f_next, .ref q_row, .ref q_least, .ref q_told, .ref q_ways, .ref q_then, .long f_seed, .ref q_isKept, .ref q_kept])), (q_now, .inl (cI, 194, .inl f_now)), (q_isKept, .inl (cZ, 2, .inl f_isKept)), (q_kept, .inl (cI, 194, .inl f_kept))]) ⟨hx, hb, hml, hown, hts⟩ (mX8_in l D cI cJ cZ cR   _ _ _ r1 hu) (va_cwS 3 hts gX8_again_X8_in rfl rfl rfl (by decide +kernel) ⟨Nat.le_of_ble_eq_true rfl, Nat.le_of_ble_eq_true rfl⟩) hK hP hD hS hA rfl hl.1 rfl (Nat.le_of_ble_eq_true rfl) dX8_again_4 ⟨Nat.le_of_ble_eq_true rfl, Nat.le_of_ble_eq_true rfl⟩ [] [0, 1, 2, 3] rfl rfl rfl rfl rfl [0, 1, 2, 3] rfl (fun _ => rfl) (fun _ H locs hP hD hS => ?_)
  refine gg_st_i ?_
  refine lv_if_ne (tgt := 12) hx hb dX8_again_7 (by decide) (fun hc => ?_) (fun hc => ?_)
  · replace hf := gg_neg hf hc
    refine lv_aload_n hx hb dX8_again_12 rfl (lv_at hl 0 rfl) ?_
    refine gg_get hx hb hts iX8 hown hK hP 0 rfl rfl 25 (by decide) k50 rfl rfl dX8_again_13 ?_
    refine lv_iload_n hx hb dX8_again_16 rfl (lv_at hl 1 rfl) ?_
    refine gg_zald hx hb hK hP 2 2 rfl rfl dX8_again_17 hf (fun hf => ?_)
    refine lv_if_ne (tgt := 24) hx hb dX8_again_18 (by decide) (fun hc => ?_) (fun hc => ?_)
    · replace hf := gg_neg hf hc
      refine lv_iconst (v := (0 : Int32)) hx hb dX8_again_24 (by decide) ?_
      refine lv_istore_n (lv' := [(2, .int (0 : Int32)), (0, .ref q), (1, .int x1)]) hx hb dX8_again_25 rfl hl (by decide) rfl (fun ls hl => ?_)
      obtain ⟨w11, hlp, hf⟩ := gg_c1_x hf
      obtain ⟨nlp, hlp⟩ := gg_lp_x hlp
      refine L26 _ _ _ (fun H locs ls hP hD hS hl => ?_) nlp _ _ hlp _ _ _ hP hD hS (lv_sub hl [1, 2, 0] rfl)
      refine lv_aload_n hx hb dX8_again_55 rfl (lv_at hl 0 rfl) ?_
      refine lv_iconst (v := (0 : Int32)) hx hb dX8_again_56 (by decide) ?_
      refine gg_put (ws' := [(q, .inr (8, [.ref q_readNeeds, .ref q_readPeople, .ref q_readQuarrels, .int f_readR, .int f_readP, .int f_readQ, .ref q_needs, .ref q_persons, .ref q_quarrels, .int f_rooms, .int f_people, .int f_pairs, .ref q_text, .int f_length, .int f_at, .int f_faultAt, .ref q_now, .int (0 : Int32), .int f_next, .ref q_row, .ref q_least, .ref q_told, .ref q_ways, .ref q_then, .long f_seed, .ref q_isKept, .ref q_kept])), (q_now, .inl (cI, 194, .inl w11)), (q_isKept, .inl (cZ, 2, .inl f_isKept)), (q_kept, .inl (cI, 194, .inl f_kept))]) hx hb hts iX8 tyX8_ok nmX8 hown hK hP hD hS 0 rfl rfl 17 (by decide) k117 rfl rfl rfl rfl rfl (Nat.le_of_ble_eq_true rfl) dX8_again_57 rfl (fun H locs hP hD hS => ?_)
      refine lv_aload_n hx hb dX8_again_60 rfl (lv_at hl 0 rfl) ?_
      refine gg_get hx hb hts iX8 hown hK hP 0 rfl rfl 16 (by decide) k31 rfl rfl dX8_again_61 ?_
      refine lv_bipush (v := (96 : Int32)) hx hb dX8_again_64 (by decide) ?_
      refine gg_iald hx hb hK hP 1 0 rfl rfl dX8_again_66 hf (fun hf => ?_)
      cases hf
      rw [hQ]
      exact gg_iret hx hb hr hlocks hS (Nat.le_of_ble_eq_true rfl) (Nat.le_of_ble_eq_true rfl) dX8_again_67 () rfl hP hD
    · replace hf := gg_pos hf hc
      refine lv_bipush (v := (-3 : Int32)) hx hb dX8_again_21 (by decide) ?_
      cases hf
      rw [hQ]
      exact gg_iret hx hb hr hlocks hS (Nat.le_of_ble_eq_true rfl) (Nat.le_of_ble_eq_true rfl) dX8_again_23 () rfl hP hD
  · replace hf := gg_pos hf hc
    refine lv_iconst (v := (-1 : Int32)) hx hb dX8_again_10 (by decide) ?_
    cases hf
    rw [hQ]
    exact gg_iret hx hb hr hlocks hS (Nat.le_of_ble_eq_true rfl) (Nat.le_of_ble_eq_true rfl) dX8_again_11 () rfl hP hD
