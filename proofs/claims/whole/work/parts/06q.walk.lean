set_option maxHeartbeats 4000000 in
set_option maxRecDepth 100000 in
theorem mX8_count (l : Launch) (D : va_G) (cI cJ cZ cR : ClassId) (q q_needs q_now q_told q_readNeeds q_readPeople q_readQuarrels q_persons q_quarrels q_text q_row q_least q_ways q_then q_isKept q_kept : Nat) (f_readR : Int32) (f_readP : Int32) (f_readQ : Int32) (f_rooms : Int32) (f_people : Int32) (f_pairs : Int32) (f_length : Int32) (f_at : Int32) (f_faultAt : Int32) (f_acts : Int32) (f_next : Int32) (f_seed : Int64) (f_needs : (Nat → Int32)) (f_now : (Nat → Int32)) (f_told : (Nat → Int32)) (x1 : Int32) (rr : Int32) (hf : pX8_count f_rooms f_people f_pairs f_length f_acts f_needs f_now f_told x1 = some rr) : gg_M gN vwCl (gg_T cI cJ cZ cR) l D yX8_count wsX8_count ({ frames := 1, cells := 0, slots := 0, locals := 22 } : Room) [.ref q, .int x1] [(q, .inr (8, [.ref q_readNeeds, .ref q_readPeople, .ref q_readQuarrels, .int f_readR, .int f_readP, .int f_readQ, .ref q_needs, .ref q_persons, .ref q_quarrels, .int f_rooms, .int f_people, .int f_pairs, .ref q_text, .int f_length, .int f_at, .int f_faultAt, .ref q_now, .int f_acts, .int f_next, .ref q_row, .ref q_least, .ref q_told, .ref q_ways, .ref q_then, .long f_seed, .ref q_isKept, .ref q_kept])), (q_needs, .inl (cI, 3, .inl f_needs)), (q_now, .inl (cI, 194, .inl f_now)), (q_told, .inl (cI, 4, .inl f_told))] (fun _ : Unit => some (.int rr)) (fun _ => [(q, .inr (8, [.ref q_readNeeds, .ref q_readPeople, .ref q_readQuarrels, .int f_readR, .int f_readP, .int f_readQ, .ref q_needs, .ref q_persons, .ref q_quarrels, .int f_rooms, .int f_people, .int f_pairs, .ref q_text, .int f_length, .int f_at, .int f_faultAt, .ref q_now, .int f_acts, .int f_next, .ref q_row, .ref q_least, .ref q_told, .ref q_ways, .ref q_then, .long f_seed, .ref q_isKept, .ref q_kept])), (q_needs, .inl (cI, 3, .inl f_needs)), (q_now, .inl (cI, 194, .inl f_now)), (q_told, .inl (cI, 4, .inl f_told))]) := by
  refine gg_M.of (cc := cX8_count) (maxL := 4) (rt := (some .int)) (by decide) rfl (Nat.le_of_ble_eq_true rfl) ?_
  intro p e s m below meth c A args Q hQ hx hb hr hml hts hown hlocks hin hA hS hP hK hD ls hl
  replace hown : s.vm.findClass RX8 = some m.cls := hown
  replace hl : lv_has ls 4 [(0, .ref q), (1, .int x1)] := hl
  have k108 := (hts (.fieldLink RX8 108 "AbsentCarpetsModel" "rooms" "I") (List.mem_of_getElem? (i := 1) rfl))
  have k63 := (hts (.fieldLink RX8 63 "AbsentCarpetsModel" "length" "I") (List.mem_of_getElem? (i := 2) rfl))
  have k111 := (hts (.fieldLink RX8 111 "AbsentCarpetsModel" "people" "I") (List.mem_of_getElem? (i := 3) rfl))
  have k31 := (hts (.fieldLink RX8 31 "AbsentCarpetsModel" "now" "[I") (List.mem_of_getElem? (i := 4) rfl))
  have k117 := (hts (.fieldLink RX8 117 "AbsentCarpetsModel" "acts" "I") (List.mem_of_getElem? (i := 5) rfl))
  have k114 := (hts (.fieldLink RX8 114 "AbsentCarpetsModel" "pairs" "I") (List.mem_of_getElem? (i := 6) rfl))
  have iX8 : ∀ w ∈ wsX80, w ∈ wsX8_count := fun _ h => List.mem_cons_of_mem _ (List.mem_append_right _ (h))
  have L4 : ∀ (y1 : Int32) (y4 : Int32), (∀ (H : Heap) (locs : List Loc) (ls : Array Slot), va_P D vwCl [(q, .inr (8, [.ref q_readNeeds, .ref q_readPeople, .ref q_readQuarrels, .int f_readR, .int f_readP, .int f_readQ, .ref q_needs, .ref q_persons, .ref q_quarrels, .int f_rooms, .int f_people, .int f_pairs, .ref q_text, .int f_length, .int f_at, .int f_faultAt, .ref q_now, .int f_acts, .int f_next, .ref q_row, .ref q_least, .ref q_told, .ref q_ways, .ref q_then, .long f_seed, .ref q_isKept, .ref q_kept])), (q_needs, .inl (cI, 3, .inl f_needs)), (q_now, .inl (cI, 194, .inl f_now)), (q_told, .inl (cI, 4, .inl f_told))] H → va_D A [(q, .inr (8, [.ref q_readNeeds, .ref q_readPeople, .ref q_readQuarrels, .int f_readR, .int f_readP, .int f_readQ, .ref q_needs, .ref q_persons, .ref q_quarrels, .int f_rooms, .int f_people, .int f_pairs, .ref q_text, .int f_length, .int f_at, .int f_faultAt, .ref q_now, .int f_acts, .int f_next, .ref q_row, .ref q_least, .ref q_told, .ref q_ways, .ref q_then, .long f_seed, .ref q_isKept, .ref q_kept])), (q_needs, .inl (cI, 3, .inl f_needs)), (q_now, .inl (cI, 194, .inl f_now)), (q_told, .inl (cI, 4, .inl f_told))] → va_S A s.heap H locs → lv_has ls 4 [(0, .ref q), (1, .int y1), (2, .int y4)] → W p l e ({ frames := 1, cells := 0, slots := 0, locals := 22 } : Room) s m args below meth c H locs 0 0 Q (F0 m 37 ls [])) → ∀ (nlp : Nat) (y2 : Int32) (y3 : Int32), gg_lpF (fun (s : (Int32 × Int32)) => pX8_count_L4 f_rooms f_people f_pairs f_length f_acts f_needs f_now f_told y1 s.1 s.2) nlp (y2, y3) = some y4 → ∀ (H : Heap) (locs : List Loc) (ls : Array Slot), va_P D vwCl [(q, .inr (8, [.ref q_readNeeds, .ref q_readPeople, .ref q_readQuarrels, .int f_readR, .int f_readP, .int f_readQ, .ref q_needs, .ref q_persons, .ref q_quarrels, .int f_rooms, .int f_people, .int f_pairs, .ref q_text, .int f_length, .int f_at, .int f_faultAt, .ref q_now, .int f_acts, .int f_next, .ref q_row, .ref q_least, .ref q_told, .ref q_ways, .ref q_then, .long f_seed, .ref q_isKept, .ref q_kept])), (q_needs, .inl (cI, 3, .inl f_needs)), (q_now, .inl (cI, 194, .inl f_now)), (q_told, .inl (cI, 4, .inl f_told))] H → va_D A [(q, .inr (8, [.ref q_readNeeds, .ref q_readPeople, .ref q_readQuarrels, .int f_readR, .int f_readP, .int f_readQ, .ref q_needs, .ref q_persons, .ref q_quarrels, .int f_rooms, .int f_people, .int f_pairs, .ref q_text, .int f_length, .int f_at, .int f_faultAt, .ref q_now, .int f_acts, .int f_next, .ref q_row, .ref q_least, .ref q_told, .ref q_ways, .ref q_then, .long f_seed, .ref q_isKept, .ref q_kept])), (q_needs, .inl (cI, 3, .inl f_needs)), (q_now, .inl (cI, 194, .inl f_now)), (q_told, .inl (cI, 4, .inl f_told))] → va_S A s.heap H locs → lv_has ls 4 [(0, .ref q), (1, .int y1), (2, .int y2), (3, .int y3)] → W p l e ({ frames := 1, cells := 0, slots := 0, locals := 22 } : Room) s m args below meth c H locs 0 0 Q (F0 m 4 ls []) := by
    intro y1 y4 hE nlp
    induction nlp with
    | zero => intro y2 y3 hf; cases hf
    | succ nlp ih =>
      intro y2 y3 hf H locs ls hP hD hS hl
      obtain ⟨zz, hz, hzE, hzN⟩ := gg_lpF_x hf
      replace hf : pX8_count_L4 f_rooms f_people f_pairs f_length f_acts f_needs f_now f_told y1 y2 y3 = some zz := hz
      have J29 : ∀ (y6 : Int32) (s7 : Int32) (s8 : Int32) (H : Heap) (locs : List Loc) (ls : Array Slot), pX8_count_j29 f_rooms f_people f_pairs f_length f_acts f_needs f_now f_told y1 y6 s7 s8 = some zz → va_P D vwCl [(q, .inr (8, [.ref q_readNeeds, .ref q_readPeople, .ref q_readQuarrels, .int f_readR, .int f_readP, .int f_readQ, .ref q_needs, .ref q_persons, .ref q_quarrels, .int f_rooms, .int f_people, .int f_pairs, .ref q_text, .int f_length, .int f_at, .int f_faultAt, .ref q_now, .int f_acts, .int f_next, .ref q_row, .ref q_least, .ref q_told, .ref q_ways, .ref q_then, .long f_seed, .ref q_isKept, .ref q_kept])), (q_needs, .inl (cI, 3, .inl f_needs)), (q_now, .inl (cI, 194, .inl f_now)), (q_told, .inl (cI, 4, .inl f_told))] H → va_D A [(q, .inr (8, [.ref q_readNeeds, .ref q_readPeople, .ref q_readQuarrels, .int f_readR, .int f_readP, .int f_readQ, .ref q_needs, .ref q_persons, .ref q_quarrels, .int f_rooms, .int f_people, .int f_pairs, .ref q_text, .int f_length, .int f_at, .int f_faultAt, .ref q_now, .int f_acts, .int f_next, .ref q_row, .ref q_least, .ref q_told, .ref q_ways, .ref q_then, .long f_seed, .ref q_isKept, .ref q_kept])), (q_needs, .inl (cI, 3, .inl f_needs)), (q_now, .inl (cI, 194, .inl f_now)), (q_told, .inl (cI, 4, .inl f_told))] → va_S A s.heap H locs → lv_has ls 4 [(0, .ref q), (1, .int y1), (3, .int y6)] → W p l e ({ frames := 1, cells := 0, slots := 0, locals := 22 } : Room) s m args below meth c H locs 0 0 Q (F0 m 29 ls [.int s8, .int s7]) := by
        intro y6 s7 s8 H locs ls hf hP hD hS hl
        unfold pX8_count_j29 at hf
        refine lv_ior hx hb dX8_count_29 ?_
        refine gg_topi hf (fun v9 hf => ?_)
        refine lv_istore_n (lv' := [(2, .int v9), (0, .ref q), (1, .int y1), (3, .int y6)]) hx hb dX8_count_30 rfl hl (by decide) rfl (fun ls hl => ?_)
        refine gg_iinc (cst := (1 : Int32)) (k := 3) (lv' := fun v10 => [(3, .int v10), (2, .int v9), (0, .ref q), (1, .int y1)]) hx hb dX8_count_31 hl rfl (by decide) (by decide) (fun _ => rfl) hf (fun v10 ls hl hf => ?_)
        refine lv_goto (tgt := 4) hx hb dX8_count_34 (by decide) ?_
        exact ih _ _ (hzN _ (Option.some.inj hf).symm) _ _ _ hP hD hS (lv_sub hl [2, 3, 1, 0] rfl)
      unfold pX8_count_L4 at hf
      refine lv_iload_n hx hb dX8_count_4 rfl (lv_at hl 3 rfl) ?_
      refine lv_aload_n hx hb dX8_count_5 rfl (lv_at hl 0 rfl) ?_
      refine gg_get hx hb hts iX8 hown hK hP 0 rfl rfl 9 (by decide) k108 rfl rfl dX8_count_6 ?_
      refine lv_icmp_ge (tgt := 37) hx hb dX8_count_9 (by decide) (fun hc => ?_) (fun hc => ?_)
      · replace hf := gg_pos hf hc
        have hq := hzE _ (Option.some.inj hf).symm
        cases hq
        exact hE _ _ _ hP hD hS (lv_sub hl [0, 1, 2] rfl)
      · replace hf := gg_neg hf hc
        refine lv_iload_n hx hb dX8_count_12 rfl (lv_at hl 2 rfl) ?_
        refine lv_aload_n hx hb dX8_count_13 rfl (lv_at hl 0 rfl) ?_
        refine lv_iconst (v := (0 : Int32)) hx hb dX8_count_14 (by decide) ?_
        refine lv_iload_n hx hb dX8_count_15 rfl (lv_at hl 3 rfl) ?_
        obtain ⟨r5, hu, hf⟩ := gg_c1_x hf
        refine gg_callV (wr := [(q_told, .inl (cI, 4, .inl f_told))]) (w2 := fun _ => [(q, .inr (8, [.ref q_readNeeds, .ref q_readPeople, .ref q_readQuarrels, .int f_readR, .int f_readP, .int f_readQ, .ref q_needs, .ref q_persons, .ref q_quarrels, .int f_rooms, .int f_people, .int f_pairs, .ref q_text, .int f_length, .int f_at, .int f_faultAt, .ref q_now, .int f_acts, .int f_next, .ref q_row, .ref q_least, .ref q_told, .ref q_ways, .ref q_then, .long f_seed, .ref q_isKept, .ref q_kept])), (q_needs, .inl (cI, 3, .inl f_needs)), (q_now, .inl (cI, 194, .inl f_now)), (q_told, .inl (cI, 4, .inl f_told))]) ⟨hx, hb, hml, hown, hts⟩ (mX8_isDone l D cI cJ cZ cR q q_needs q_now q_readNeeds q_readPeople q_readQuarrels q_persons q_quarrels q_text q_row q_least q_told q_ways q_then q_isKept q_kept f_readR f_readP f_readQ f_rooms f_people f_pairs f_length f_at f_faultAt f_acts f_next f_seed f_needs f_now _ _ r5 hu) (cwV 2 hts gX8_count_X8_isDone rfl rfl rfl (by decide +kernel) ⟨Nat.le_of_ble_eq_true rfl, Nat.le_of_ble_eq_true rfl⟩) hK hP hD hS hA 0 rfl rfl rfl rfl hl.1 rfl (Nat.le_of_ble_eq_true rfl) dX8_count_16 ⟨Nat.le_of_ble_eq_true rfl, Nat.le_of_ble_eq_true rfl⟩ [0, 1, 2] [3] rfl rfl rfl rfl rfl [1, 2, 3, 0] rfl (fun _ => rfl) (fun _ H locs hP hD hS => ?_)
        refine gg_st_i ?_
        refine lv_if_eq (tgt := 28) hx hb dX8_count_19 (by decide) (fun hc => ?_) (fun hc => ?_)
        · replace hf := gg_pos hf hc
          refine lv_iconst (v := (0 : Int32)) hx hb dX8_count_28 (by decide) ?_
          exact J29 _ _ _ _ _ _ hf hP hD hS (lv_sub hl [0, 1, 3] rfl)
        · replace hf := gg_neg hf hc
          refine lv_iconst (v := (1 : Int32)) hx hb dX8_count_22 (by decide) ?_
          refine lv_iload_n hx hb dX8_count_23 rfl (lv_at hl 3 rfl) ?_
          refine lv_ishl hx hb dX8_count_24 ?_
          refine lv_goto (tgt := 29) hx hb dX8_count_25 (by decide) ?_
          exact J29 _ _ _ _ _ _ hf hP hD hS (lv_sub hl [0, 1, 3] rfl)
  unfold pX8_count at hf
  refine lv_iconst (v := (0 : Int32)) hx hb dX8_count_0 (by decide) ?_
  refine lv_istore_n (lv' := [(2, .int (0 : Int32)), (0, .ref q), (1, .int x1)]) hx hb dX8_count_1 rfl hl (by decide) rfl (fun ls hl => ?_)
  refine lv_iconst (v := (0 : Int32)) hx hb dX8_count_2 (by decide) ?_
  refine lv_istore_n (lv' := [(3, .int (0 : Int32)), (2, .int (0 : Int32)), (0, .ref q), (1, .int x1)]) hx hb dX8_count_3 rfl hl (by decide) rfl (fun ls hl => ?_)
  obtain ⟨y11, hlp, hf⟩ := gg_c1_x hf
  obtain ⟨nlp, hlp⟩ := gg_lp_x hlp
  refine L4 _ _ (fun H locs ls hP hD hS hl => ?_) nlp _ _ hlp _ _ _ hP hD hS (lv_sub hl [2, 3, 1, 0] rfl)
  refine lv_iload_n hx hb dX8_count_37 rfl (lv_at hl 1 rfl) ?_
  by_cases hs0 : x1 = (0 : Int32)
  · replace hf := gg_pos hf hs0
    refine lv_tableIn (tgt := 88) hx hb dX8_count_38 (by rw [hs0]; decide) (by rw [hs0]; decide) (by rw [hs0]; rfl) (by decide) ?_
    refine lv_aload_n hx hb dX8_count_88 rfl (lv_at hl 0 rfl) ?_
    refine gg_get hx hb hts iX8 hown hK hP 0 rfl rfl 13 (by decide) k63 rfl rfl dX8_count_89 ?_
    cases hf
    rw [hQ]
    exact gg_iret hx hb hr hlocks hS (Nat.le_of_ble_eq_true rfl) (Nat.le_of_ble_eq_true rfl) dX8_count_92 () rfl hP hD
  · replace hf := gg_neg hf hs0
    by_cases hs1 : x1 = (1 : Int32)
    · replace hf := gg_pos hf hs1
      refine lv_tableIn (tgt := 93) hx hb dX8_count_38 (by rw [hs1]; decide) (by rw [hs1]; decide) (by rw [hs1]; rfl) (by decide) ?_
      refine lv_aload_n hx hb dX8_count_93 rfl (lv_at hl 0 rfl) ?_
      refine gg_get hx hb hts iX8 hown hK hP 0 rfl rfl 9 (by decide) k108 rfl rfl dX8_count_94 ?_
      cases hf
      rw [hQ]
      exact gg_iret hx hb hr hlocks hS (Nat.le_of_ble_eq_true rfl) (Nat.le_of_ble_eq_true rfl) dX8_count_97 () rfl hP hD
    · replace hf := gg_neg hf hs1
      by_cases hs2 : x1 = (2 : Int32)
      · replace hf := gg_pos hf hs2
        refine lv_tableIn (tgt := 98) hx hb dX8_count_38 (by rw [hs2]; decide) (by rw [hs2]; decide) (by rw [hs2]; rfl) (by decide) ?_
        refine lv_aload_n hx hb dX8_count_98 rfl (lv_at hl 0 rfl) ?_
        refine gg_get hx hb hts iX8 hown hK hP 0 rfl rfl 10 (by decide) k111 rfl rfl dX8_count_99 ?_
        cases hf
        rw [hQ]
        exact gg_iret hx hb hr hlocks hS (Nat.le_of_ble_eq_true rfl) (Nat.le_of_ble_eq_true rfl) dX8_count_102 () rfl hP hD
      · replace hf := gg_neg hf hs2
        by_cases hs3 : x1 = (3 : Int32)
        · replace hf := gg_pos hf hs3
          refine lv_tableIn (tgt := 103) hx hb dX8_count_38 (by rw [hs3]; decide) (by rw [hs3]; decide) (by rw [hs3]; rfl) (by decide) ?_
          refine lv_aload_n hx hb dX8_count_103 rfl (lv_at hl 0 rfl) ?_
          refine gg_get hx hb hts iX8 hown hK hP 0 rfl rfl 16 (by decide) k31 rfl rfl dX8_count_104 ?_
          refine lv_bipush (v := (96 : Int32)) hx hb dX8_count_107 (by decide) ?_
          refine gg_iald hx hb hK hP 2 0 rfl rfl dX8_count_109 hf (fun hf => ?_)
          cases hf
          rw [hQ]
          exact gg_iret hx hb hr hlocks hS (Nat.le_of_ble_eq_true rfl) (Nat.le_of_ble_eq_true rfl) dX8_count_110 () rfl hP hD
        · replace hf := gg_neg hf hs3
          by_cases hs4 : x1 = (4 : Int32)
          · replace hf := gg_pos hf hs4
            refine lv_tableIn (tgt := 111) hx hb dX8_count_38 (by rw [hs4]; decide) (by rw [hs4]; decide) (by rw [hs4]; rfl) (by decide) ?_
            refine lv_iload_n hx hb dX8_count_111 rfl (lv_at hl 2 rfl) ?_
            cases hf
            rw [hQ]
            exact gg_iret hx hb hr hlocks hS (Nat.le_of_ble_eq_true rfl) (Nat.le_of_ble_eq_true rfl) dX8_count_112 () rfl hP hD
          · replace hf := gg_neg hf hs4
            by_cases hs5 : x1 = (5 : Int32)
            · replace hf := gg_pos hf hs5
              refine lv_tableIn (tgt := 113) hx hb dX8_count_38 (by rw [hs5]; decide) (by rw [hs5]; decide) (by rw [hs5]; rfl) (by decide) ?_
              refine lv_aload_n hx hb dX8_count_113 rfl (lv_at hl 0 rfl) ?_
              refine gg_get hx hb hts iX8 hown hK hP 0 rfl rfl 16 (by decide) k31 rfl rfl dX8_count_114 ?_
              refine lv_bipush (v := (90 : Int32)) hx hb dX8_count_117 (by decide) ?_
              refine gg_iald hx hb hK hP 2 0 rfl rfl dX8_count_119 hf (fun hf => ?_)
              refine lv_aload_n hx hb dX8_count_120 rfl (lv_at hl 0 rfl) ?_
              refine gg_get hx hb hts iX8 hown hK hP 0 rfl rfl 16 (by decide) k31 rfl rfl dX8_count_121 ?_
              refine lv_bipush (v := (91 : Int32)) hx hb dX8_count_124 (by decide) ?_
              refine gg_iald hx hb hK hP 2 0 rfl rfl dX8_count_126 hf (fun hf => ?_)
              refine lv_iadd hx hb dX8_count_127 ?_
              refine lv_aload_n hx hb dX8_count_128 rfl (lv_at hl 0 rfl) ?_
              refine gg_get hx hb hts iX8 hown hK hP 0 rfl rfl 16 (by decide) k31 rfl rfl dX8_count_129 ?_
              refine lv_bipush (v := (92 : Int32)) hx hb dX8_count_132 (by decide) ?_
              refine gg_iald hx hb hK hP 2 0 rfl rfl dX8_count_134 hf (fun hf => ?_)
              refine lv_iadd hx hb dX8_count_135 ?_
              cases hf
              rw [hQ]
              exact gg_iret hx hb hr hlocks hS (Nat.le_of_ble_eq_true rfl) (Nat.le_of_ble_eq_true rfl) dX8_count_136 () rfl hP hD
            · replace hf := gg_neg hf hs5
              by_cases hs6 : x1 = (6 : Int32)
              · replace hf := gg_pos hf hs6
                refine lv_tableIn (tgt := 137) hx hb dX8_count_38 (by rw [hs6]; decide) (by rw [hs6]; decide) (by rw [hs6]; rfl) (by decide) ?_
                refine lv_aload_n hx hb dX8_count_137 rfl (lv_at hl 0 rfl) ?_
                refine gg_get hx hb hts iX8 hown hK hP 0 rfl rfl 17 (by decide) k117 rfl rfl dX8_count_138 ?_
                cases hf
                rw [hQ]
                exact gg_iret hx hb hr hlocks hS (Nat.le_of_ble_eq_true rfl) (Nat.le_of_ble_eq_true rfl) dX8_count_141 () rfl hP hD
              · replace hf := gg_neg hf hs6
                by_cases hs7 : x1 = (7 : Int32)
                · replace hf := gg_pos hf hs7
                  refine lv_tableIn (tgt := 142) hx hb dX8_count_38 (by rw [hs7]; decide) (by rw [hs7]; decide) (by rw [hs7]; rfl) (by decide) ?_
                  refine lv_aload_n hx hb dX8_count_142 rfl (lv_at hl 0 rfl) ?_
                  obtain ⟨r16, hu, hf⟩ := gg_c1_x hf
                  refine gg_callV (wr := [(q_needs, .inl (cI, 3, .inl f_needs)), (q_now, .inl (cI, 194, .inl f_now))]) (w2 := fun _ => [(q, .inr (8, [.ref q_readNeeds, .ref q_readPeople, .ref q_readQuarrels, .int f_readR, .int f_readP, .int f_readQ, .ref q_needs, .ref q_persons, .ref q_quarrels, .int f_rooms, .int f_people, .int f_pairs, .ref q_text, .int f_length, .int f_at, .int f_faultAt, .ref q_now, .int f_acts, .int f_next, .ref q_row, .ref q_least, .ref q_told, .ref q_ways, .ref q_then, .long f_seed, .ref q_isKept, .ref q_kept])), (q_needs, .inl (cI, 3, .inl f_needs)), (q_now, .inl (cI, 194, .inl f_now)), (q_told, .inl (cI, 4, .inl f_told))]) ⟨hx, hb, hml, hown, hts⟩ (mX8_toldMany l D cI cJ cZ cR q q_told q_readNeeds q_readPeople q_readQuarrels q_needs q_persons q_quarrels q_text q_now q_row q_least q_ways q_then q_isKept q_kept f_readR f_readP f_readQ f_rooms f_people f_pairs f_length f_at f_faultAt f_acts f_next f_seed f_told  r16 hu) (cwV 0 hts gX8_count_X8_toldMany rfl rfl rfl (by decide +kernel) ⟨Nat.le_of_ble_eq_true rfl, Nat.le_of_ble_eq_true rfl⟩) hK hP hD hS hA 0 rfl rfl rfl rfl hl.1 rfl (Nat.le_of_ble_eq_true rfl) dX8_count_143 ⟨Nat.le_of_ble_eq_true rfl, Nat.le_of_ble_eq_true rfl⟩ [0, 3] [1, 2] rfl rfl rfl rfl rfl [2, 0, 1, 3] rfl (fun _ => rfl) (fun _ H locs hP hD hS => ?_)
                  refine gg_st_i ?_
                  cases hf
                  rw [hQ]
                  exact gg_iret hx hb hr hlocks hS (Nat.le_of_ble_eq_true rfl) (Nat.le_of_ble_eq_true rfl) dX8_count_146 () rfl hP hD
                · replace hf := gg_neg hf hs7
                  by_cases hs8 : x1 = (8 : Int32)
                  · replace hf := gg_pos hf hs8
                    refine lv_tableIn (tgt := 147) hx hb dX8_count_38 (by rw [hs8]; decide) (by rw [hs8]; decide) (by rw [hs8]; rfl) (by decide) ?_
                    refine lv_aload_n hx hb dX8_count_147 rfl (lv_at hl 0 rfl) ?_
                    refine gg_get hx hb hts iX8 hown hK hP 0 rfl rfl 11 (by decide) k114 rfl rfl dX8_count_148 ?_
                    cases hf
                    rw [hQ]
                    exact gg_iret hx hb hr hlocks hS (Nat.le_of_ble_eq_true rfl) (Nat.le_of_ble_eq_true rfl) dX8_count_151 () rfl hP hD
                  · replace hf := gg_neg hf hs8
                    refine lv_tableOut (tgt := 152) hx hb dX8_count_38 (by have e0 := gg_i hs0 (k := 0) (by decide); have e1 := gg_i hs1 (k := 1) (by decide); have e2 := gg_i hs2 (k := 2) (by decide); have e3 := gg_i hs3 (k := 3) (by decide); have e4 := gg_i hs4 (k := 4) (by decide); have e5 := gg_i hs5 (k := 5) (by decide); have e6 := gg_i hs6 (k := 6) (by decide); have e7 := gg_i hs7 (k := 7) (by decide); have e8 := gg_i hs8 (k := 8) (by decide); omega) (by decide) ?_
                    refine lv_bipush (v := (-2 : Int32)) hx hb dX8_count_152 (by decide) ?_
                    cases hf
                    rw [hQ]
                    exact gg_iret hx hb hr hlocks hS (Nat.le_of_ble_eq_true rfl) (Nat.le_of_ble_eq_true rfl) dX8_count_154 () rfl hP hD
