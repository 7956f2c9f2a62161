set_option maxHeartbeats 4000000 in
set_option maxRecDepth 100000 in
theorem mX3_surelyAway (l : Launch) (D : va_G) (cI cJ cZ cR : ClassId) (q q_told q_p1 q_p1_colourOf q_p1_needs q_p1_roomOf q_p1_grudgeOf q_p1_tenthsOf q_p1_quarrelOf : Nat) (f_told : (Nat → Int32)) (f_p1_rooms : Int32) (f_p1_people : Int32) (f_p1_quarrels : Int32) (f_p1_colourOf : (Nat → Int32)) (rr : Int32) (hf : pX3_surelyAway f_told f_p1_people f_p1_colourOf = some rr) : gg_M gN vwCl (gg_T cI cJ cZ cR) l D yX3_surelyAway wsX3_surelyAway ({ frames := 2, cells := 0, slots := 0, locals := 47 } : Room) [.ref q, .ref q_p1] [(q, .inr (3, [.ref q_told])), (q_told, .inl (cI, 4, .inl f_told)), (q_p1, .inr (4, [.int f_p1_rooms, .int f_p1_people, .int f_p1_quarrels, .ref q_p1_needs, .ref q_p1_roomOf, .ref q_p1_colourOf, .ref q_p1_grudgeOf, .ref q_p1_tenthsOf, .ref q_p1_quarrelOf])), (q_p1_colourOf, .inl (cI, 5, .inl f_p1_colourOf))] (fun _ : Unit => some (.int rr)) (fun _ => [(q, .inr (3, [.ref q_told])), (q_told, .inl (cI, 4, .inl f_told)), (q_p1, .inr (4, [.int f_p1_rooms, .int f_p1_people, .int f_p1_quarrels, .ref q_p1_needs, .ref q_p1_roomOf, .ref q_p1_colourOf, .ref q_p1_grudgeOf, .ref q_p1_tenthsOf, .ref q_p1_quarrelOf])), (q_p1_colourOf, .inl (cI, 5, .inl f_p1_colourOf))]) := by
  refine gg_M.of (cc := cX3_surelyAway) (maxL := 6) (rt := (some .int)) (by decide) rfl (Nat.le_of_ble_eq_true rfl) ?_
  intro p e s m below meth c A args Q hQ hx hb hr hml hts hown hlocks hin hA hS hP hK hD ls hl
  replace hown : s.vm.findClass RX3 = some m.cls := hown
  replace hl : lv_has ls 6 [(0, .ref q), (1, .ref q_p1)] := hl
  have L13 : ∀ (y2 : Int32) (y6 : Int32) (y7 : Int32), (∀ (H : Heap) (locs : List Loc) (ls : Array Slot), va_P D vwCl [(q, .inr (3, [.ref q_told])), (q_told, .inl (cI, 4, .inl f_told)), (q_p1, .inr (4, [.int f_p1_rooms, .int f_p1_people, .int f_p1_quarrels, .ref q_p1_needs, .ref q_p1_roomOf, .ref q_p1_colourOf, .ref q_p1_grudgeOf, .ref q_p1_tenthsOf, .ref q_p1_quarrelOf])), (q_p1_colourOf, .inl (cI, 5, .inl f_p1_colourOf))] H → va_D A [(q, .inr (3, [.ref q_told])), (q_told, .inl (cI, 4, .inl f_told)), (q_p1, .inr (4, [.int f_p1_rooms, .int f_p1_people, .int f_p1_quarrels, .ref q_p1_needs, .ref q_p1_roomOf, .ref q_p1_colourOf, .ref q_p1_grudgeOf, .ref q_p1_tenthsOf, .ref q_p1_quarrelOf])), (q_p1_colourOf, .inl (cI, 5, .inl f_p1_colourOf))] → va_S A s.heap H locs → lv_has ls 6 [(2, .int y6), (4, .int y7)] → W p l e ({ frames := 2, cells := 0, slots := 0, locals := 47 } : Room) s m args below meth c H locs 0 0 Q (F0 m 44 ls [])) → ∀ (nlp : Nat) (y3 : Int32) (y4 : Int32) (y5 : Int32), gg_lpF (fun (s : (Int32 × Int32 × Int32)) => pX3_surelyAway_L13 f_told f_p1_people f_p1_colourOf y2 s.1 s.2.1 s.2.2) nlp (y3, y4, y5) = some (y6, y7) → ∀ (H : Heap) (locs : List Loc) (ls : Array Slot), va_P D vwCl [(q, .inr (3, [.ref q_told])), (q_told, .inl (cI, 4, .inl f_told)), (q_p1, .inr (4, [.int f_p1_rooms, .int f_p1_people, .int f_p1_quarrels, .ref q_p1_needs, .ref q_p1_roomOf, .ref q_p1_colourOf, .ref q_p1_grudgeOf, .ref q_p1_tenthsOf, .ref q_p1_quarrelOf])), (q_p1_colourOf, .inl (cI, 5, .inl f_p1_colourOf))] H → va_D A [(q, .inr (3, [.ref q_told])), (q_told, .inl (cI, 4, .inl f_told)), (q_p1, .inr (4, [.int f_p1_rooms, .int f_p1_people, .int f_p1_quarrels, .ref q_p1_needs, .ref q_p1_roomOf, .ref q_p1_colourOf, .ref q_p1_grudgeOf, .ref q_p1_tenthsOf, .ref q_p1_quarrelOf])), (q_p1_colourOf, .inl (cI, 5, .inl f_p1_colourOf))] → va_S A s.heap H locs → lv_has ls 6 [(0, .ref q), (1, .ref q_p1), (2, .int y3), (3, .int y2), (4, .int y4), (5, .int y5)] → W p l e ({ frames := 2, cells := 0, slots := 0, locals := 47 } : Room) s m args below meth c H locs 0 0 Q (F0 m 13 ls []) := by
    intro y2 y6 y7 hE nlp
    induction nlp with
    | zero => intro y3 y4 y5 hf; cases hf
    | succ nlp ih =>
      intro y3 y4 y5 hf H locs ls hP hD hS hl
      obtain ⟨zz, hz, hzE, hzN⟩ := gg_lpF_x hf
      replace hf : pX3_surelyAway_L13 f_told f_p1_people f_p1_colourOf y2 y3 y4 y5 = some zz := hz
      unfold pX3_surelyAway_L13 at hf
      refine lv_iload hx hb dX3_surelyAway_13 (lv_at hl 5 rfl) ?_
      refine lv_iload_n hx hb dX3_surelyAway_15 rfl (lv_at hl 3 rfl) ?_
      refine lv_icmp_gt (tgt := 44) hx hb dX3_surelyAway_16 (by decide) (fun hc => ?_) (fun hc => ?_)
      · replace hf := gg_pos hf hc
        have hq := hzE _ (Option.some.inj hf).symm
        cases hq
        exact hE _ _ _ hP hD hS (lv_sub hl [2, 4] rfl)
      · replace hf := gg_neg hf hc
        refine lv_aload_n hx hb dX3_surelyAway_19 rfl (lv_at hl 0 rfl) ?_
        refine lv_aload_n hx hb dX3_surelyAway_20 rfl (lv_at hl 1 rfl) ?_
        refine lv_iload hx hb dX3_surelyAway_21 (lv_at hl 5 rfl) ?_
        obtain ⟨r8, hu, hf⟩ := gg_c1_x hf
        refine gg_callV (wr := []) (w2 := fun _ => [(q, .inr (3, [.ref q_told])), (q_told, .inl (cI, 4, .inl f_told)), (q_p1, .inr (4, [.int f_p1_rooms, .int f_p1_people, .int f_p1_quarrels, .ref q_p1_needs, .ref q_p1_roomOf, .ref q_p1_colourOf, .ref q_p1_grudgeOf, .ref q_p1_tenthsOf, .ref q_p1_quarrelOf])), (q_p1_colourOf, .inl (cI, 5, .inl f_p1_colourOf))]) ⟨hx, hb, hml, hown, hts⟩ (mX3_fits l D cI cJ cZ cR q q_told q_p1 q_p1_colourOf q_p1_needs q_p1_roomOf q_p1_grudgeOf q_p1_tenthsOf q_p1_quarrelOf f_told f_p1_rooms f_p1_people f_p1_quarrels f_p1_colourOf _ r8 hu) (cwV 2 hts gX3_surelyAway_X3_fits rfl rfl rfl (by decide +kernel) ⟨Nat.le_of_ble_eq_true rfl, Nat.le_of_ble_eq_true rfl⟩) hK hP hD hS hA 0 rfl rfl rfl rfl hl.1 rfl (Nat.le_of_ble_eq_true rfl) dX3_surelyAway_23 ⟨Nat.le_of_ble_eq_true rfl, Nat.le_of_ble_eq_true rfl⟩ [0, 1, 2, 3] [] rfl rfl rfl rfl rfl [0, 1, 2, 3] rfl (fun _ => rfl) (fun _ H locs hP hD hS => ?_)
        refine gg_st_i ?_
        refine lv_if_eq (tgt := 38) hx hb dX3_surelyAway_26 (by decide) (fun hc => ?_) (fun hc => ?_)
        · replace hf := gg_pos hf hc
          refine gg_iinc (cst := (1 : Int32)) (k := 5) (lv' := fun v9 => [(5, .int v9), (0, .ref q), (1, .ref q_p1), (2, .int y3), (3, .int y2), (4, .int y4)]) hx hb dX3_surelyAway_38 hl rfl (by decide) (by decide) (fun _ => rfl) hf (fun v9 ls hl hf => ?_)
          refine lv_goto (tgt := 13) hx hb dX3_surelyAway_41 (by decide) ?_
          exact ih _ _ _ (hzN _ (Option.some.inj hf).symm) _ _ _ hP hD hS (lv_sub hl [1, 2, 3, 4, 5, 0] rfl)
        · replace hf := gg_neg hf hc
          refine lv_iconst (v := (1 : Int32)) hx hb dX3_surelyAway_29 (by decide) ?_
          refine lv_istore_n (lv' := [(2, .int (1 : Int32)), (0, .ref q), (1, .ref q_p1), (3, .int y2), (4, .int y4), (5, .int y5)]) hx hb dX3_surelyAway_30 rfl hl (by decide) rfl (fun ls hl => ?_)
          refine lv_iload hx hb dX3_surelyAway_31 (lv_at hl 4 rfl) ?_
          refine lv_iload hx hb dX3_surelyAway_33 (lv_at hl 5 rfl) ?_
          refine lv_iand hx hb dX3_surelyAway_35 ?_
          refine gg_topi hf (fun v10 hf => ?_)
          refine lv_istore (lv' := [(4, .int v10), (2, .int (1 : Int32)), (0, .ref q), (1, .ref q_p1), (3, .int y2), (5, .int y5)]) hx hb dX3_surelyAway_36 hl (by decide) rfl (fun ls hl => ?_)
          refine gg_iinc (cst := (1 : Int32)) (k := 5) (lv' := fun v11 => [(5, .int v11), (4, .int v10), (2, .int (1 : Int32)), (0, .ref q), (1, .ref q_p1), (3, .int y2)]) hx hb dX3_surelyAway_38 hl rfl (by decide) (by decide) (fun _ => rfl) hf (fun v11 ls hl hf => ?_)
          refine lv_goto (tgt := 13) hx hb dX3_surelyAway_41 (by decide) ?_
          exact ih _ _ _ (hzN _ (Option.some.inj hf).symm) _ _ _ hP hD hS (lv_sub hl [3, 4, 2, 5, 1, 0] rfl)
  unfold pX3_surelyAway at hf
  refine lv_iconst (v := (0 : Int32)) hx hb dX3_surelyAway_0 (by decide) ?_
  refine lv_istore_n (lv' := [(2, .int (0 : Int32)), (0, .ref q), (1, .ref q_p1)]) hx hb dX3_surelyAway_1 rfl hl (by decide) rfl (fun ls hl => ?_)
  refine lv_aload_n hx hb dX3_surelyAway_2 rfl (lv_at hl 2 rfl) ?_
  obtain ⟨r1, hu, hf⟩ := gg_c1_x hf
  refine gg_callV (wr := [(q, .inr (3, [.ref q_told])), (q_told, .inl (cI, 4, .inl f_told)), (q_p1_colourOf, .inl (cI, 5, .inl f_p1_colourOf))]) (w2 := fun _ => [(q, .inr (3, [.ref q_told])), (q_told, .inl (cI, 4, .inl f_told)), (q_p1, .inr (4, [.int f_p1_rooms, .int f_p1_people, .int f_p1_quarrels, .ref q_p1_needs, .ref q_p1_roomOf, .ref q_p1_colourOf, .ref q_p1_grudgeOf, .ref q_p1_tenthsOf, .ref q_p1_quarrelOf])), (q_p1_colourOf, .inl (cI, 5, .inl f_p1_colourOf))]) ⟨hx, hb, hml, hown, hts⟩ (mX4_everyone l D cI cJ cZ cR q_p1 q_p1_needs q_p1_roomOf q_p1_colourOf q_p1_grudgeOf q_p1_tenthsOf q_p1_quarrelOf f_p1_rooms f_p1_people f_p1_quarrels  r1 hu) (cwV 0 hts gX3_surelyAway_X4_everyone rfl rfl rfl (by decide +kernel) ⟨Nat.le_of_ble_eq_true rfl, Nat.le_of_ble_eq_true rfl⟩) hK hP hD hS hA 2 rfl rfl rfl rfl hl.1 rfl (Nat.le_of_ble_eq_true rfl) dX3_surelyAway_3 ⟨Nat.le_of_ble_eq_true rfl, Nat.le_of_ble_eq_true rfl⟩ [2] [0, 1, 3] rfl rfl rfl rfl rfl [0, 1, 3, 2] rfl (fun _ => rfl) (fun _ H locs hP hD hS => ?_)
  refine gg_st_i ?_
  refine lv_istore_n (lv' := [(3, .int r1), (2, .int (0 : Int32)), (0, .ref q), (1, .ref q_p1)]) hx hb dX3_surelyAway_6 rfl hl (by decide) rfl (fun ls hl => ?_)
  refine lv_iload_n hx hb dX3_surelyAway_7 rfl (lv_at hl 0 rfl) ?_
  refine lv_istore (lv' := [(4, .int r1), (3, .int r1), (2, .int (0 : Int32)), (0, .ref q), (1, .ref q_p1)]) hx hb dX3_surelyAway_8 hl (by decide) rfl (fun ls hl => ?_)
  refine lv_iconst (v := (0 : Int32)) hx hb dX3_surelyAway_10 (by decide) ?_
  refine lv_istore (lv' := [(5, .int (0 : Int32)), (4, .int r1), (3, .int r1), (2, .int (0 : Int32)), (0, .ref q), (1, .ref q_p1)]) hx hb dX3_surelyAway_11 hl (by decide) rfl (fun ls hl => ?_)
  obtain ⟨y12, y13, hlp, hf⟩ := gg_c2_x hf
  obtain ⟨nlp, hlp⟩ := gg_lp_x hlp
  refine L13 _ _ _ (fun H locs ls hP hD hS hl => ?_) nlp _ _ _ hlp _ _ _ hP hD hS (lv_sub hl [4, 5, 3, 2, 1, 0] rfl)
  refine lv_iload_n hx hb dX3_surelyAway_44 rfl (lv_at hl 0 rfl) ?_
  refine lv_if_eq (tgt := 53) hx hb dX3_surelyAway_45 (by decide) (fun hc => ?_) (fun hc => ?_)
  · replace hf := gg_pos hf hc
    refine lv_bipush (v := (-9 : Int32)) hx hb dX3_surelyAway_53 (by decide) ?_
    cases hf
    rw [hQ]
    exact gg_iret hx hb hr hlocks hS (Nat.le_of_ble_eq_true rfl) (Nat.le_of_ble_eq_true rfl) dX3_surelyAway_55 () rfl hP hD
  · replace hf := gg_neg hf hc
    refine lv_iload hx hb dX3_surelyAway_48 (lv_at hl 1 rfl) ?_
    refine lv_goto (tgt := 55) hx hb dX3_surelyAway_50 (by decide) ?_
    cases hf
    rw [hQ]
    exact gg_iret hx hb hr hlocks hS (Nat.le_of_ble_eq_true rfl) (Nat.le_of_ble_eq_true rfl) dX3_surelyAway_55 () rfl hP hD
set_option maxHeartbeats 4000000 in
set_option maxRecDepth 100000 in
theorem mX3_surelyCame (l : Launch) (D : va_G) (cI cJ cZ cR : ClassId) (q q_told q_p1 q_p1_colourOf q_p1_needs q_p1_roomOf q_p1_grudgeOf q_p1_tenthsOf q_p1_quarrelOf : Nat) (f_told : (Nat → Int32)) (f_p1_rooms : Int32) (f_p1_people : Int32) (f_p1_quarrels : Int32) (f_p1_colourOf : (Nat → Int32)) (rr : Int32) (hf : pX3_surelyCame f_told f_p1_people f_p1_colourOf = some rr) : gg_M gN vwCl (gg_T cI cJ cZ cR) l D yX3_surelyCame wsX3_surelyCame ({ frames := 2, cells := 0, slots := 0, locals := 47 } : Room) [.ref q, .ref q_p1] [(q, .inr (3, [.ref q_told])), (q_told, .inl (cI, 4, .inl f_told)), (q_p1, .inr (4, [.int f_p1_rooms, .int f_p1_people, .int f_p1_quarrels, .ref q_p1_needs, .ref q_p1_roomOf, .ref q_p1_colourOf, .ref q_p1_grudgeOf, .ref q_p1_tenthsOf, .ref q_p1_quarrelOf])), (q_p1_colourOf, .inl (cI, 5, .inl f_p1_colourOf))] (fun _ : Unit => some (.int rr)) (fun _ => [(q, .inr (3, [.ref q_told])), (q_told, .inl (cI, 4, .inl f_told)), (q_p1, .inr (4, [.int f_p1_rooms, .int f_p1_people, .int f_p1_quarrels, .ref q_p1_needs, .ref q_p1_roomOf, .ref q_p1_colourOf, .ref q_p1_grudgeOf, .ref q_p1_tenthsOf, .ref q_p1_quarrelOf])), (q_p1_colourOf, .inl (cI, 5, .inl f_p1_colourOf))]) := by
  refine gg_M.of (cc := cX3_surelyCame) (maxL := 6) (rt := (some .int)) (by decide) rfl (Nat.le_of_ble_eq_true rfl) ?_
  intro p e s m below meth c A args Q hQ hx hb hr hml hts hown hlocks hin hA hS hP hK hD ls hl
  replace hown : s.vm.findClass RX3 = some m.cls := hown
  replace hl : lv_has ls 6 [(0, .ref q), (1, .ref q_p1)] := hl
  have L13 : ∀ (y2 : Int32) (y6 : Int32) (y7 : Int32), (∀ (H : Heap) (locs : List Loc) (ls : Array Slot), va_P D vwCl [(q, .inr (3, [.ref q_told])), (q_told, .inl (cI, 4, .inl f_told)), (q_p1, .inr (4, [.int f_p1_rooms, .int f_p1_people, .int f_p1_quarrels, .ref q_p1_needs, .ref q_p1_roomOf, .ref q_p1_colourOf, .ref q_p1_grudgeOf, .ref q_p1_tenthsOf, .ref q_p1_quarrelOf])), (q_p1_colourOf, .inl (cI, 5, .inl f_p1_colourOf))] H → va_D A [(q, .inr (3, [.ref q_told])), (q_told, .inl (cI, 4, .inl f_told)), (q_p1, .inr (4, [.int f_p1_rooms, .int f_p1_people, .int f_p1_quarrels, .ref q_p1_needs, .ref q_p1_roomOf, .ref q_p1_colourOf, .ref q_p1_grudgeOf, .ref q_p1_tenthsOf, .ref q_p1_quarrelOf])), (q_p1_colourOf, .inl (cI, 5, .inl f_p1_colourOf))] → va_S A s.heap H locs → lv_has ls 6 [(2, .int y6), (3, .int y2), (4, .int y7)] → W p l e ({ frames := 2, cells := 0, slots := 0, locals := 47 } : Room) s m args below meth c H locs 0 0 Q (F0 m 44 ls [])) → ∀ (nlp : Nat) (y3 : Int32) (y4 : Int32) (y5 : Int32), gg_lpF (fun (s : (Int32 × Int32 × Int32)) => pX3_surelyCame_L13 f_told f_p1_people f_p1_colourOf y2 s.1 s.2.1 s.2.2) nlp (y3, y4, y5) = some (y6, y7) → ∀ (H : Heap) (locs : List Loc) (ls : Array Slot), va_P D vwCl [(q, .inr (3, [.ref q_told])), (q_told, .inl (cI, 4, .inl f_told)), (q_p1, .inr (4, [.int f_p1_rooms, .int f_p1_people, .int f_p1_quarrels, .ref q_p1_needs, .ref q_p1_roomOf, .ref q_p1_colourOf, .ref q_p1_grudgeOf, .ref q_p1_tenthsOf, .ref q_p1_quarrelOf])), (q_p1_colourOf, .inl (cI, 5, .inl f_p1_colourOf))] H → va_D A [(q, .inr (3, [.ref q_told])), (q_told, .inl (cI, 4, .inl f_told)), (q_p1, .inr (4, [.int f_p1_rooms, .int f_p1_people, .int f_p1_quarrels, .ref q_p1_needs, .ref q_p1_roomOf, .ref q_p1_colourOf, .ref q_p1_grudgeOf, .ref q_p1_tenthsOf, .ref q_p1_quarrelOf])), (q_p1_colourOf, .inl (cI, 5, .inl f_p1_colourOf))] → va_S A s.heap H locs → lv_has ls 6 [(0, .ref q), (1, .ref q_p1), (2, .int y3), (3, .int y2), (4, .int y4), (5, .int y5)] → W p l e ({ frames := 2, cells := 0, slots := 0, locals := 47 } : Room) s m args below meth c H locs 0 0 Q (F0 m 13 ls []) := by
    intro y2 y6 y7 hE nlp
    induction nlp with
    | zero => intro y3 y4 y5 hf; cases hf
    | succ nlp ih =>
      intro y3 y4 y5 hf H locs ls hP hD hS hl
      obtain ⟨zz, hz, hzE, hzN⟩ := gg_lpF_x hf
      replace hf : pX3_surelyCame_L13 f_told f_p1_people f_p1_colourOf y2 y3 y4 y5 = some zz := hz
      unfold pX3_surelyCame_L13 at hf
      refine lv_iload hx hb dX3_surelyCame_13 (lv_at hl 5 rfl) ?_
      refine lv_iload_n hx hb dX3_surelyCame_15 rfl (lv_at hl 3 rfl) ?_
      refine lv_icmp_gt (tgt := 44) hx hb dX3_surelyCame_16 (by decide) (fun hc => ?_) (fun hc => ?_)
      · replace hf := gg_pos hf hc
        have hq := hzE _ (Option.some.inj hf).symm
        cases hq
        exact hE _ _ _ hP hD hS (lv_sub hl [2, 3, 4] rfl)
      · replace hf := gg_neg hf hc
        refine lv_aload_n hx hb dX3_surelyCame_19 rfl (lv_at hl 0 rfl) ?_
        refine lv_aload_n hx hb dX3_surelyCame_20 rfl (lv_at hl 1 rfl) ?_
        refine lv_iload hx hb dX3_surelyCame_21 (lv_at hl 5 rfl) ?_
        obtain ⟨r8, hu, hf⟩ := gg_c1_x hf
        refine gg_callV (wr := []) (w2 := fun _ => [(q, .inr (3, [.ref q_told])), (q_told, .inl (cI, 4, .inl f_told)), (q_p1, .inr (4, [.int f_p1_rooms, .int f_p1_people, .int f_p1_quarrels, .ref q_p1_needs, .ref q_p1_roomOf, .ref q_p1_colourOf, .ref q_p1_grudgeOf, .ref q_p1_tenthsOf, .ref q_p1_quarrelOf])), (q_p1_colourOf, .inl (cI, 5, .inl f_p1_colourOf))]) ⟨hx, hb, hml, hown, hts⟩ (mX3_fits l D cI cJ cZ cR q q_told q_p1 q_p1_colourOf q_p1_needs q_p1_roomOf q_p1_grudgeOf q_p1_tenthsOf q_p1_quarrelOf f_told f_p1_rooms f_p1_people f_p1_quarrels f_p1_colourOf _ r8 hu) (cwV 2 hts gX3_surelyCame_X3_fits rfl rfl rfl (by decide +kernel) ⟨Nat.le_of_ble_eq_true rfl, Nat.le_of_ble_eq_true rfl⟩) hK hP hD hS hA 0 rfl rfl rfl rfl hl.1 rfl (Nat.le_of_ble_eq_true rfl) dX3_surelyCame_23 ⟨Nat.le_of_ble_eq_true rfl, Nat.le_of_ble_eq_true rfl⟩ [0, 1, 2, 3] [] rfl rfl rfl rfl rfl [0, 1, 2, 3] rfl (fun _ => rfl) (fun _ H locs hP hD hS => ?_)
        refine gg_st_i ?_
        refine lv_if_eq (tgt := 38) hx hb dX3_surelyCame_26 (by decide) (fun hc => ?_) (fun hc => ?_)
        · replace hf := gg_pos hf hc
          refine gg_iinc (cst := (1 : Int32)) (k := 5) (lv' := fun v9 => [(5, .int v9), (0, .ref q), (1, .ref q_p1), (2, .int y3), (3, .int y2), (4, .int y4)]) hx hb dX3_surelyCame_38 hl rfl (by decide) (by decide) (fun _ => rfl) hf (fun v9 ls hl hf => ?_)
          refine lv_goto (tgt := 13) hx hb dX3_surelyCame_41 (by decide) ?_
          exact ih _ _ _ (hzN _ (Option.some.inj hf).symm) _ _ _ hP hD hS (lv_sub hl [1, 2, 3, 4, 5, 0] rfl)
        · replace hf := gg_neg hf hc
          refine lv_iconst (v := (1 : Int32)) hx hb dX3_surelyCame_29 (by decide) ?_
          refine lv_istore_n (lv' := [(2, .int (1 : Int32)), (0, .ref q), (1, .ref q_p1), (3, .int y2), (4, .int y4), (5, .int y5)]) hx hb dX3_surelyCame_30 rfl hl (by decide) rfl (fun ls hl => ?_)
          refine lv_iload hx hb dX3_surelyCame_31 (lv_at hl 4 rfl) ?_
          refine lv_iload hx hb dX3_surelyCame_33 (lv_at hl 5 rfl) ?_
          refine lv_ior hx hb dX3_surelyCame_35 ?_
          refine gg_topi hf (fun v10 hf => ?_)
          refine lv_istore (lv' := [(4, .int v10), (2, .int (1 : Int32)), (0, .ref q), (1, .ref q_p1), (3, .int y2), (5, .int y5)]) hx hb dX3_surelyCame_36 hl (by decide) rfl (fun ls hl => ?_)
          refine gg_iinc (cst := (1 : Int32)) (k := 5) (lv' := fun v11 => [(5, .int v11), (4, .int v10), (2, .int (1 : Int32)), (0, .ref q), (1, .ref q_p1), (3, .int y2)]) hx hb dX3_surelyCame_38 hl rfl (by decide) (by decide) (fun _ => rfl) hf (fun v11 ls hl hf => ?_)
          refine lv_goto (tgt := 13) hx hb dX3_surelyCame_41 (by decide) ?_
          exact ih _ _ _ (hzN _ (Option.some.inj hf).symm) _ _ _ hP hD hS (lv_sub hl [3, 4, 2, 5, 1, 0] rfl)
  unfold pX3_surelyCame at hf
  refine lv_iconst (v := (0 : Int32)) hx hb dX3_surelyCame_0 (by decide) ?_
  refine lv_istore_n (lv' := [(2, .int (0 : Int32)), (0, .ref q), (1, .ref q_p1)]) hx hb dX3_surelyCame_1 rfl hl (by decide) rfl (fun ls hl => ?_)
  refine lv_aload_n hx hb dX3_surelyCame_2 rfl (lv_at hl 2 rfl) ?_
  obtain ⟨r1, hu, hf⟩ := gg_c1_x hf
  refine gg_callV (wr := [(q, .inr (3, [.ref q_told])), (q_told, .inl (cI, 4, .inl f_told)), (q_p1_colourOf, .inl (cI, 5, .inl f_p1_colourOf))]) (w2 := fun _ => [(q, .inr (3, [.ref q_told])), (q_told, .inl (cI, 4, .inl f_told)), (q_p1, .inr (4, [.int f_p1_rooms, .int f_p1_people, .int f_p1_quarrels, .ref q_p1_needs, .ref q_p1_roomOf, .ref q_p1_colourOf, .ref q_p1_grudgeOf, .ref q_p1_tenthsOf, .ref q_p1_quarrelOf])), (q_p1_colourOf, .inl (cI, 5, .inl f_p1_colourOf))]) ⟨hx, hb, hml, hown, hts⟩ (mX4_everyone l D cI cJ cZ cR q_p1 q_p1_needs q_p1_roomOf q_p1_colourOf q_p1_grudgeOf q_p1_tenthsOf q_p1_quarrelOf f_p1_rooms f_p1_people f_p1_quarrels  r1 hu) (cwV 0 hts gX3_surelyCame_X4_everyone rfl rfl rfl (by decide +kernel) ⟨Nat.le_of_ble_eq_true rfl, Nat.le_of_ble_eq_true rfl⟩) hK hP hD hS hA 2 rfl rfl rfl rfl hl.1 rfl (Nat.le_of_ble_eq_true rfl) dX3_surelyCame_3 ⟨Nat.le_of_ble_eq_true rfl, Nat.le_of_ble_eq_true rfl⟩ [2] [0, 1, 3] rfl rfl rfl rfl rfl [0, 1, 3, 2] rfl (fun _ => rfl) (fun _ H locs hP hD hS => ?_)
  refine gg_st_i ?_
  refine lv_istore_n (lv' := [(3, .int r1), (2, .int (0 : Int32)), (0, .ref q), (1, .ref q_p1)]) hx hb dX3_surelyCame_6 rfl hl (by decide) rfl (fun ls hl => ?_)
  refine lv_iconst (v := (0 : Int32)) hx hb dX3_surelyCame_7 (by decide) ?_
  refine lv_istore (lv' := [(4, .int (0 : Int32)), (3, .int r1), (2, .int (0 : Int32)), (0, .ref q), (1, .ref q_p1)]) hx hb dX3_surelyCame_8 hl (by decide) rfl (fun ls hl => ?_)
  refine lv_iconst (v := (0 : Int32)) hx hb dX3_surelyCame_10 (by decide) ?_
  refine lv_istore (lv' := [(5, .int (0 : Int32)), (4, .int (0 : Int32)), (3, .int r1), (2, .int (0 : Int32)), (0, .ref q), (1, .ref q_p1)]) hx hb dX3_surelyCame_11 hl (by decide) rfl (fun ls hl => ?_)
  obtain ⟨y12, y13, hlp, hf⟩ := gg_c2_x hf
  obtain ⟨nlp, hlp⟩ := gg_lp_x hlp
  refine L13 _ _ _ (fun H locs ls hP hD hS hl => ?_) nlp _ _ _ hlp _ _ _ hP hD hS (lv_sub hl [4, 5, 3, 2, 1, 0] rfl)
  refine lv_iload_n hx hb dX3_surelyCame_44 rfl (lv_at hl 0 rfl) ?_
  refine lv_if_eq (tgt := 57) hx hb dX3_surelyCame_45 (by decide) (fun hc => ?_) (fun hc => ?_)
  · replace hf := gg_pos hf hc
    refine lv_bipush (v := (-9 : Int32)) hx hb dX3_surelyCame_57 (by decide) ?_
    cases hf
    rw [hQ]
    exact gg_iret hx hb hr hlocks hS (Nat.le_of_ble_eq_true rfl) (Nat.le_of_ble_eq_true rfl) dX3_surelyCame_59 () rfl hP hD
  · replace hf := gg_neg hf hc
    refine lv_iload_n hx hb dX3_surelyCame_48 rfl (lv_at hl 1 rfl) ?_
    refine lv_iload hx hb dX3_surelyCame_49 (lv_at hl 2 rfl) ?_
    refine lv_iconst (v := (-1 : Int32)) hx hb dX3_surelyCame_51 (by decide) ?_
    refine lv_ixor hx hb dX3_surelyCame_52 ?_
    refine lv_iand hx hb dX3_surelyCame_53 ?_
    refine lv_goto (tgt := 59) hx hb dX3_surelyCame_54 (by decide) ?_
    cases hf
    rw [hQ]
    exact gg_iret hx hb hr hlocks hS (Nat.le_of_ble_eq_true rfl) (Nat.le_of_ble_eq_true rfl) dX3_surelyCame_59 () rfl hP hD
set_option maxHeartbeats 4000000 in
set_option maxRecDepth 100000 in
theorem mX7_who (l : Launch) (D : va_G) (cI cJ cZ cR : ClassId) (q q_lived q_lived_colourOf q_evening q_evening_told q_text q_reader q_carpets q_acts q_slots q_slotFilled q_planner q_chances q_lived_needs q_lived_roomOf q_lived_grudgeOf q_lived_tenthsOf q_lived_quarrelOf : Nat) (f_textLength : Int32) (f_seedNow : Int64) (f_lived_rooms : Int32) (f_lived_people : Int32) (f_lived_quarrels : Int32) (f_lived_colourOf : (Nat → Int32)) (f_evening_told : (Nat → Int32)) (x1 : Int32) (rr : Int32) (hf : pX7_who f_lived_people f_lived_colourOf f_evening_told x1 = some rr) : gg_M gN vwCl (gg_T cI cJ cZ cR) l D yX7_who wsX7_who ({ frames := 3, cells := 0, slots := 0, locals := 72 } : Room) [.ref q, .int x1] [(q, .inr (7, [.ref q_text, .int f_textLength, .ref q_reader, .ref q_lived, .ref q_carpets, .ref q_acts, .ref q_slots, .ref q_slotFilled, .ref q_evening, .ref q_planner, .ref q_chances, .long f_seedNow])), (q_lived, .inr (4, [.int f_lived_rooms, .int f_lived_people, .int f_lived_quarrels, .ref q_lived_needs, .ref q_lived_roomOf, .ref q_lived_colourOf, .ref q_lived_grudgeOf, .ref q_lived_tenthsOf, .ref q_lived_quarrelOf])), (q_lived_colourOf, .inl (cI, 5, .inl f_lived_colourOf)), (q_evening, .inr (3, [.ref q_evening_told])), (q_evening_told, .inl (cI, 4, .inl f_evening_told))] (fun _ : Unit => some (.int rr)) (fun _ => [(q, .inr (7, [.ref q_text, .int f_textLength, .ref q_reader, .ref q_lived, .ref q_carpets, .ref q_acts, .ref q_slots, .ref q_slotFilled, .ref q_evening, .ref q_planner, .ref q_chances, .long f_seedNow])), (q_lived, .inr (4, [.int f_lived_rooms, .int f_lived_people, .int f_lived_quarrels, .ref q_lived_needs, .ref q_lived_roomOf, .ref q_lived_colourOf, .ref q_lived_grudgeOf, .ref q_lived_tenthsOf, .ref q_lived_quarrelOf])), (q_lived_colourOf, .inl (cI, 5, .inl f_lived_colourOf)), (q_evening, .inr (3, [.ref q_evening_told])), (q_evening_told, .inl (cI, 4, .inl f_evening_told))]) := by
  refine gg_M.of (cc := cX7_who) (maxL := 2) (rt := (some .int)) (by decide) rfl (Nat.le_of_ble_eq_true rfl) ?_
  intro p e s m below meth c A args Q hQ hx hb hr hml hts hown hlocks hin hA hS hP hK hD ls hl
  replace hown : s.vm.findClass RX7 = some m.cls := hown
  replace hl : lv_has ls 2 [(0, .ref q), (1, .int x1)] := hl
  have k57 := (hts (.fieldLink RX7 57 "AbsentCarpets" "evening" "LAbsentCarpets$Evening;") (List.mem_of_getElem? (i := 1) rfl))
  have k27 := (hts (.fieldLink RX7 27 "AbsentCarpets" "lived" "LAbsentCarpets$House;") (List.mem_of_getElem? (i := 2) rfl))
  have iX7 : ∀ w ∈ wsX70, w ∈ wsX7_who := fun _ h => List.mem_cons_of_mem _ (List.mem_append_left _ (List.mem_append_left _ (List.mem_append_right _ (h))))
  unfold pX7_who at hf
  refine lv_iload_n hx hb dX7_who_0 rfl (lv_at hl 1 rfl) ?_
  by_cases hs0 : x1 = (0 : Int32)
  · replace hf := gg_pos hf hs0
    refine lv_tableIn (tgt := 28) hx hb dX7_who_1 (by rw [hs0]; decide) (by rw [hs0]; decide) (by rw [hs0]; rfl) (by decide) ?_
    refine lv_aload_n hx hb dX7_who_28 rfl (lv_at hl 0 rfl) ?_
    refine gg_get hx hb hts iX7 hown hK hP 0 rfl rfl 8 (by decide) k57 rfl rfl dX7_who_29 ?_
    refine lv_aload_n hx hb dX7_who_32 rfl (lv_at hl 0 rfl) ?_
    refine gg_get hx hb hts iX7 hown hK hP 0 rfl rfl 3 (by decide) k27 rfl rfl dX7_who_33 ?_
    obtain ⟨r1, hu, hf⟩ := gg_c1_x hf
    refine gg_callV (wr := [(q, .inr (7, [.ref q_text, .int f_textLength, .ref q_reader, .ref q_lived, .ref q_carpets, .ref q_acts, .ref q_slots, .ref q_slotFilled, .ref q_evening, .ref q_planner, .ref q_chances, .long f_seedNow]))]) (w2 := fun _ => [(q, .inr (7, [.ref q_text, .int f_textLength, .ref q_reader, .ref q_lived, .ref q_carpets, .ref q_acts, .ref q_slots, .ref q_slotFilled, .ref q_evening, .ref q_planner, .ref q_chances, .long f_seedNow])), (q_lived, .inr (4, [.int f_lived_rooms, .int f_lived_people, .int f_lived_quarrels, .ref q_lived_needs, .ref q_lived_roomOf, .ref q_lived_colourOf, .ref q_lived_grudgeOf, .ref q_lived_tenthsOf, .ref q_lived_quarrelOf])), (q_lived_colourOf, .inl (cI, 5, .inl f_lived_colourOf)), (q_evening, .inr (3, [.ref q_evening_told])), (q_evening_told, .inl (cI, 4, .inl f_evening_told))]) ⟨hx, hb, hml, hown, hts⟩ (mX3_setsThatFit l D cI cJ cZ cR q_evening q_evening_told q_lived q_lived_colourOf q_lived_needs q_lived_roomOf q_lived_grudgeOf q_lived_tenthsOf q_lived_quarrelOf f_evening_told f_lived_rooms f_lived_people f_lived_quarrels f_lived_colourOf  r1 hu) (cwV 1 hts gX7_who_X3_setsThatFit rfl rfl rfl (by decide +kernel) ⟨Nat.le_of_ble_eq_true rfl, Nat.le_of_ble_eq_true rfl⟩) hK hP hD hS hA 3 rfl rfl rfl rfl hl.1 rfl (Nat.le_of_ble_eq_true rfl) dX7_who_36 ⟨Nat.le_of_ble_eq_true rfl, Nat.le_of_ble_eq_true rfl⟩ [3, 4, 1, 2] [0] rfl rfl rfl rfl rfl [0, 3, 4, 1, 2] rfl (fun _ => rfl) (fun _ H locs hP hD hS => ?_)
    refine gg_st_i ?_
    cases hf
    rw [hQ]
    exact gg_iret hx hb hr hlocks hS (Nat.le_of_ble_eq_true rfl) (Nat.le_of_ble_eq_true rfl) dX7_who_39 () rfl hP hD
  · replace hf := gg_neg hf hs0
    by_cases hs1 : x1 = (1 : Int32)
    · replace hf := gg_pos hf hs1
      refine lv_tableIn (tgt := 40) hx hb dX7_who_1 (by rw [hs1]; decide) (by rw [hs1]; decide) (by rw [hs1]; rfl) (by decide) ?_
      refine lv_aload_n hx hb dX7_who_40 rfl (lv_at hl 0 rfl) ?_
      refine gg_get hx hb hts iX7 hown hK hP 0 rfl rfl 8 (by decide) k57 rfl rfl dX7_who_41 ?_
      refine lv_aload_n hx hb dX7_who_44 rfl (lv_at hl 0 rfl) ?_
      refine gg_get hx hb hts iX7 hown hK hP 0 rfl rfl 3 (by decide) k27 rfl rfl dX7_who_45 ?_
      obtain ⟨r2, hu, hf⟩ := gg_c1_x hf
      refine gg_callV (wr := [(q, .inr (7, [.ref q_text, .int f_textLength, .ref q_reader, .ref q_lived, .ref q_carpets, .ref q_acts, .ref q_slots, .ref q_slotFilled, .ref q_evening, .ref q_planner, .ref q_chances, .long f_seedNow]))]) (w2 := fun _ => [(q, .inr (7, [.ref q_text, .int f_textLength, .ref q_reader, .ref q_lived, .ref q_carpets, .ref q_acts, .ref q_slots, .ref q_slotFilled, .ref q_evening, .ref q_planner, .ref q_chances, .long f_seedNow])), (q_lived, .inr (4, [.int f_lived_rooms, .int f_lived_people, .int f_lived_quarrels, .ref q_lived_needs, .ref q_lived_roomOf, .ref q_lived_colourOf, .ref q_lived_grudgeOf, .ref q_lived_tenthsOf, .ref q_lived_quarrelOf])), (q_lived_colourOf, .inl (cI, 5, .inl f_lived_colourOf)), (q_evening, .inr (3, [.ref q_evening_told])), (q_evening_told, .inl (cI, 4, .inl f_evening_told))]) ⟨hx, hb, hml, hown, hts⟩ (mX3_surelyAway l D cI cJ cZ cR q_evening q_evening_told q_lived q_lived_colourOf q_lived_needs q_lived_roomOf q_lived_grudgeOf q_lived_tenthsOf q_lived_quarrelOf f_evening_told f_lived_rooms f_lived_people f_lived_quarrels f_lived_colourOf  r2 hu) (cwV 1 hts gX7_who_X3_surelyAway rfl rfl rfl (by decide +kernel) ⟨Nat.le_of_ble_eq_true rfl, Nat.le_of_ble_eq_true rfl⟩) hK hP hD hS hA 3 rfl rfl rfl rfl hl.1 rfl (Nat.le_of_ble_eq_true rfl) dX7_who_48 ⟨Nat.le_of_ble_eq_true rfl, Nat.le_of_ble_eq_true rfl⟩ [3, 4, 1, 2] [0] rfl rfl rfl rfl rfl [0, 3, 4, 1, 2] rfl (fun _ => rfl) (fun _ H locs hP hD hS => ?_)
      refine gg_st_i ?_
      cases hf
      rw [hQ]
      exact gg_iret hx hb hr hlocks hS (Nat.le_of_ble_eq_true rfl) (Nat.le_of_ble_eq_true rfl) dX7_who_51 () rfl hP hD
    · replace hf := gg_neg hf hs1
      by_cases hs2 : x1 = (2 : Int32)
      · replace hf := gg_pos hf hs2
        refine lv_tableIn (tgt := 52) hx hb dX7_who_1 (by rw [hs2]; decide) (by rw [hs2]; decide) (by rw [hs2]; rfl) (by decide) ?_
        refine lv_aload_n hx hb dX7_who_52 rfl (lv_at hl 0 rfl) ?_
        refine gg_get hx hb hts iX7 hown hK hP 0 rfl rfl 8 (by decide) k57 rfl rfl dX7_who_53 ?_
        refine lv_aload_n hx hb dX7_who_56 rfl (lv_at hl 0 rfl) ?_
        refine gg_get hx hb hts iX7 hown hK hP 0 rfl rfl 3 (by decide) k27 rfl rfl dX7_who_57 ?_
        obtain ⟨r3, hu, hf⟩ := gg_c1_x hf
        refine gg_callV (wr := [(q, .inr (7, [.ref q_text, .int f_textLength, .ref q_reader, .ref q_lived, .ref q_carpets, .ref q_acts, .ref q_slots, .ref q_slotFilled, .ref q_evening, .ref q_planner, .ref q_chances, .long f_seedNow]))]) (w2 := fun _ => [(q, .inr (7, [.ref q_text, .int f_textLength, .ref q_reader, .ref q_lived, .ref q_carpets, .ref q_acts, .ref q_slots, .ref q_slotFilled, .ref q_evening, .ref q_planner, .ref q_chances, .long f_seedNow])), (q_lived, .inr (4, [.int f_lived_rooms, .int f_lived_people, .int f_lived_quarrels, .ref q_lived_needs, .ref q_lived_roomOf, .ref q_lived_colourOf, .ref q_lived_grudgeOf, .ref q_lived_tenthsOf, .ref q_lived_quarrelOf])), (q_lived_colourOf, .inl (cI, 5, .inl f_lived_colourOf)), (q_evening, .inr (3, [.ref q_evening_told])), (q_evening_told, .inl (cI, 4, .inl f_evening_told))]) ⟨hx, hb, hml, hown, hts⟩ (mX3_surelyCame l D cI cJ cZ cR q_evening q_evening_told q_lived q_lived_colourOf q_lived_needs q_lived_roomOf q_lived_grudgeOf q_lived_tenthsOf q_lived_quarrelOf f_evening_told f_lived_rooms f_lived_people f_lived_quarrels f_lived_colourOf  r3 hu) (cwV 1 hts gX7_who_X3_surelyCame rfl rfl rfl (by decide +kernel) ⟨Nat.le_of_ble_eq_true rfl, Nat.le_of_ble_eq_true rfl⟩) hK hP hD hS hA 3 rfl rfl rfl rfl hl.1 rfl (Nat.le_of_ble_eq_true rfl) dX7_who_60 ⟨Nat.le_of_ble_eq_true rfl, Nat.le_of_ble_eq_true rfl⟩ [3, 4, 1, 2] [0] rfl rfl rfl rfl rfl [0, 3, 4, 1, 2] rfl (fun _ => rfl) (fun _ H locs hP hD hS => ?_)
        refine gg_st_i ?_
        cases hf
        rw [hQ]
        exact gg_iret hx hb hr hlocks hS (Nat.le_of_ble_eq_true rfl) (Nat.le_of_ble_eq_true rfl) dX7_who_63 () rfl hP hD
      · replace hf := gg_neg hf hs2
        refine lv_tableOut (tgt := 64) hx hb dX7_who_1 (by have e0 := gg_i hs0 (k := 0) (by decide); have e1 := gg_i hs1 (k := 1) (by decide); have e2 := gg_i hs2 (k := 2) (by decide); omega) (by decide) ?_
        refine lv_bipush (v := (-2 : Int32)) hx hb dX7_who_64 (by decide) ?_
        cases hf
        rw [hQ]
        exact gg_iret hx hb hr hlocks hS (Nat.le_of_ble_eq_true rfl) (Nat.le_of_ble_eq_true rfl) dX7_who_66 () rfl hP hD
set_option maxHeartbeats 4000000 in
set_option maxRecDepth 100000 in
theorem mX2_clear (l : Launch) (D : va_G) (cI cJ cZ cR : ClassId) (q_p0 : Nat) (nA : Nat) (f_p0 : (Nat → Int64)) (nf_p0 : (Nat → Int64)) (hf : pX2_clear nA f_p0 = some nf_p0) : gg_M gN vwCl (gg_T cI cJ cZ cR) l D yX2_clear wsX2_clear ({ frames := 0, cells := 0, slots := 0, locals := 0 } : Room) [.ref q_p0] [(q_p0, .inl (cJ, nA, .inr (.inl f_p0)))] (fun _ : Unit => none) (fun _ => [(q_p0, .inl (cJ, nA, .inr (.inl nf_p0)))]) := by
  refine gg_M.of (cc := cX2_clear) (maxL := 2) (rt := none) (by decide) rfl (Nat.le_of_ble_eq_true rfl) ?_
  intro p e s m below meth c A args Q hQ hx hb hr hml hts hown hlocks hin hA hS hP hK hD ls hl
  replace hown : s.vm.findClass RX2 = some m.cls := hown
  replace hl : lv_has ls 2 [(0, .ref q_p0)] := hl
  have L2 : ∀ (w3 : (Nat → Int64)), (∀ (H : Heap) (locs : List Loc) (ls : Array Slot), va_P D vwCl [(q_p0, .inl (cJ, nA, .inr (.inl w3)))] H → va_D A [(q_p0, .inl (cJ, nA, .inr (.inl w3)))] → va_S A s.heap H locs → lv_has ls 2 [] → W p l e ({ frames := 0, cells := 0, slots := 0, locals := 0 } : Room) s m args below meth c H locs 0 0 Q (F0 m 18 ls [])) → ∀ (nlp : Nat) (w1 : (Nat → Int64)) (y2 : Int32), gg_lpF (fun (s : ((Nat → Int64) × Int32)) => pX2_clear_L2 nA s.1 s.2) nlp (w1, y2) = some w3 → ∀ (H : Heap) (locs : List Loc) (ls : Array Slot), va_P D vwCl [(q_p0, .inl (cJ, nA, .inr (.inl w1)))] H → va_D A [(q_p0, .inl (cJ, nA, .inr (.inl w1)))] → va_S A s.heap H locs → lv_has ls 2 [(0, .ref q_p0), (1, .int y2)] → W p l e ({ frames := 0, cells := 0, slots := 0, locals := 0 } : Room) s m args below meth c H locs 0 0 Q (F0 m 2 ls []) := by
    intro w3 hE nlp
    induction nlp with
    | zero => intro w1 y2 hf; cases hf
    | succ nlp ih =>
      intro w1 y2 hf H locs ls hP hD hS hl
      obtain ⟨zz, hz, hzE, hzN⟩ := gg_lpF_x hf
      replace hf : pX2_clear_L2 nA   w1 y2 = some zz := hz
      unfold pX2_clear_L2 at hf
      refine lv_iload_n hx hb dX2_clear_2 rfl (lv_at hl 1 rfl) ?_
      refine lv_aload_n hx hb dX2_clear_3 rfl (lv_at hl 0 rfl) ?_
      refine va_alen (D := D) (v := (Int32.ofNat nA)) hx hb hK.1 hP 0 1 rfl rfl rfl dX2_clear_4 ?_
      refine lv_icmp_ge (tgt := 18) hx hb dX2_clear_5 (by decide) (fun hc => ?_) (fun hc => ?_)
      · replace hf := gg_pos hf hc
        have hq := hzE _ (Option.some.inj hf).symm
        cases hq
        exact hE _ _ _ hP hD hS (lv_sub hl [] rfl)
      · replace hf := gg_neg hf hc
        refine lv_aload_n hx hb dX2_clear_8 rfl (lv_at hl 0 rfl) ?_
        refine lv_iload_n hx hb dX2_clear_9 rfl (lv_at hl 1 rfl) ?_
        refine lv_lconst (v := (0 : Int64)) hx hb dX2_clear_10 (by decide) ?_
        refine gg_last (ws' := fun g4 => [(q_p0, .inl (cJ, nA, .inr (.inl g4)))]) hx hb hK hP hD hS 0 1 rfl rfl dX2_clear_11 (fun _ => rfl) hf (fun g4 H locs hP hD hS hf => ?_)
        refine gg_iinc (cst := (1 : Int32)) (k := 1) (lv' := fun v5 => [(1, .int v5), (0, .ref q_p0)]) hx hb dX2_clear_12 hl rfl (by decide) (by decide) (fun _ => rfl) hf (fun v5 ls hl hf => ?_)
        refine lv_goto (tgt := 2) hx hb dX2_clear_15 (by decide) ?_
        exact ih _ _ (hzN _ (Option.some.inj hf).symm) _ _ _ hP hD hS (lv_sub hl [1, 0] rfl)
  unfold pX2_clear at hf
  refine lv_iconst (v := (0 : Int32)) hx hb dX2_clear_0 (by decide) ?_
  refine lv_istore_n (lv' := [(1, .int (0 : Int32)), (0, .ref q_p0)]) hx hb dX2_clear_1 rfl hl (by decide) rfl (fun ls hl => ?_)
  obtain ⟨w6, hlp, hf⟩ := gg_c1_x hf
  obtain ⟨nlp, hlp⟩ := gg_lp_x hlp
  refine L2  _ (fun H locs ls hP hD hS hl => ?_) nlp _ _ hlp _ _ _ hP hD hS (lv_sub hl [1, 0] rfl)
  cases hf
  rw [hQ]
  exact gg_vret hx hb hr hlocks hS (Nat.le_of_ble_eq_true rfl) (Nat.le_of_ble_eq_true rfl) dX2_clear_18 () rfl hP hD
set_option maxHeartbeats 4000000 in
set_option maxRecDepth 100000 in
theorem mX2_spreadOne (l : Launch) (D : va_G) (cI cJ cZ cR : ClassId) (q q_waysOf q_now q_behind : Nat) (f_members : Int32) (f_allWays : Int64) (f_doneWays : Int64) (f_waysOf : (Nat → Int64)) (x1 : Int32) (nf_waysOf : (Nat → Int64)) (hf : pX2_spreadOne f_waysOf x1 = some nf_waysOf) : gg_M gN vwCl (gg_T cI cJ cZ cR) l D yX2_spreadOne wsX2_spreadOne ({ frames := 0, cells := 0, slots := 0, locals := 0 } : Room) [.ref q, .int x1] [(q, .inr (2, [.ref q_now, .ref q_behind, .ref q_waysOf, .int f_members, .long f_allWays, .long f_doneWays])), (q_waysOf, .inl (cJ, 6, .inr (.inl f_waysOf)))] (fun _ : Unit => none) (fun _ => [(q, .inr (2, [.ref q_now, .ref q_behind, .ref q_waysOf, .int f_members, .long f_allWays, .long f_doneWays])), (q_waysOf, .inl (cJ, 6, .inr (.inl nf_waysOf)))]) := by
  refine gg_M.of (cc := cX2_spreadOne) (maxL := 3) (rt := none) (by decide) rfl (Nat.le_of_ble_eq_true rfl) ?_
  intro p e s m below meth c A args Q hQ hx hb hr hml hts hown hlocks hin hA hS hP hK hD ls hl
  replace hown : s.vm.findClass RX2 = some m.cls := hown
  replace hl : lv_has ls 3 [(0, .ref q), (1, .int x1)] := hl
  have k18 := (hts (.fieldLink RX2 18 "AbsentCarpets$Chances" "waysOf" "[J") (List.mem_of_getElem? (i := 1) rfl))
  have iX2 : ∀ w ∈ wsX20, w ∈ wsX2_spreadOne := fun _ h => List.mem_cons_of_mem _ (List.mem_append_right _ (h))
  have L2 : ∀ (y1 : Int32) (w4 : (Nat → Int64)), (∀ (H : Heap) (locs : List Loc) (ls : Array Slot), va_P D vwCl [(q, .inr (2, [.ref q_now, .ref q_behind, .ref q_waysOf, .int f_members, .long f_allWays, .long f_doneWays])), (q_waysOf, .inl (cJ, 6, .inr (.inl w4)))] H → va_D A [(q, .inr (2, [.ref q_now, .ref q_behind, .ref q_waysOf, .int f_members, .long f_allWays, .long f_doneWays])), (q_waysOf, .inl (cJ, 6, .inr (.inl w4)))] → va_S A s.heap H locs → lv_has ls 3 [(0, .ref q), (1, .int y1)] → W p l e ({ frames := 0, cells := 0, slots := 0, locals := 0 } : Room) s m args below meth c H locs 0 0 Q (F0 m 42 ls [])) → ∀ (nlp : Nat) (w2 : (Nat → Int64)) (y3 : Int32), gg_lpF (fun (s : ((Nat → Int64) × Int32)) => pX2_spreadOne_L2 y1 s.1 s.2) nlp (w2, y3) = some w4 → ∀ (H : Heap) (locs : List Loc) (ls : Array Slot), va_P D vwCl [(q, .inr (2, [.ref q_now, .ref q_behind, .ref q_waysOf, .int f_members, .long f_allWays, .long f_doneWays])), (q_waysOf, .inl (cJ, 6, .inr (.inl w2)))] H → va_D A [(q, .inr (2, [.ref q_now, .ref q_behind, .ref q_waysOf, .int f_members, .long f_allWays, .long f_doneWays])), (q_waysOf, .inl (cJ, 6, .inr (.inl w2)))] → va_S A s.heap H locs → lv_has ls 3 [(0, .ref q), (1, .int y1), (2, .int y3)] → W p l e ({ frames := 0, cells := 0, slots := 0, locals := 0 } : Room) s m args below meth c H locs 0 0 Q (F0 m 2 ls []) := by
    intro y1 w4 hE nlp
    induction nlp with
    | zero => intro w2 y3 hf; cases hf
    | succ nlp ih =>
      intro w2 y3 hf H locs ls hP hD hS hl
      obtain ⟨zz, hz, hzE, hzN⟩ := gg_lpF_x hf
      replace hf : pX2_spreadOne_L2  y1 w2 y3 = some zz := hz
      unfold pX2_spreadOne_L2 at hf
      refine lv_iload_n hx hb dX2_spreadOne_2 rfl (lv_at hl 2 rfl) ?_
      refine lv_if_le (tgt := 42) hx hb dX2_spreadOne_3 (by decide) (fun hc => ?_) (fun hc => ?_)
      · replace hf := gg_pos hf hc
        have hq := hzE _ (Option.some.inj hf).symm
        cases hq
        exact hE _ _ _ hP hD hS (lv_sub hl [0, 1] rfl)
      · replace hf := gg_neg hf hc
        refine lv_aload_n hx hb dX2_spreadOne_6 rfl (lv_at hl 0 rfl) ?_
        refine gg_get hx hb hts iX2 hown hK hP 0 rfl rfl 2 (by decide) k18 rfl rfl dX2_spreadOne_7 ?_
        refine lv_iload_n hx hb dX2_spreadOne_10 rfl (lv_at hl 2 rfl) ?_
        refine lv_aload_n hx hb dX2_spreadOne_11 rfl (lv_at hl 0 rfl) ?_
        refine gg_get hx hb hts iX2 hown hK hP 0 rfl rfl 2 (by decide) k18 rfl rfl dX2_spreadOne_12 ?_
        refine lv_iload_n hx hb dX2_spreadOne_15 rfl (lv_at hl 2 rfl) ?_
        refine gg_lald hx hb hK hP 1 1 rfl rfl dX2_spreadOne_16 hf (fun hf => ?_)
        refine lv_bipush (v := (10 : Int32)) hx hb dX2_spreadOne_17 (by decide) ?_
        refine lv_iload_n hx hb dX2_spreadOne_19 rfl (lv_at hl 1 rfl) ?_
        refine lv_isub hx hb dX2_spreadOne_20 ?_
        refine lv_i2l hx hb dX2_spreadOne_21 rfl ?_
        refine lv_lmul hx hb dX2_spreadOne_22 ?_
        refine lv_aload_n hx hb dX2_spreadOne_23 rfl (lv_at hl 0 rfl) ?_
        refine gg_get hx hb hts iX2 hown hK hP 0 rfl rfl 2 (by decide) k18 rfl rfl dX2_spreadOne_24 ?_
        refine lv_iload_n hx hb dX2_spreadOne_27 rfl (lv_at hl 2 rfl) ?_
        refine lv_iconst (v := (1 : Int32)) hx hb dX2_spreadOne_28 (by decide) ?_
        refine lv_isub hx hb dX2_spreadOne_29 ?_
        refine gg_lald hx hb hK hP 1 1 rfl rfl dX2_spreadOne_30 hf (fun hf => ?_)
        refine lv_iload_n hx hb dX2_spreadOne_31 rfl (lv_at hl 1 rfl) ?_
        refine lv_i2l hx hb dX2_spreadOne_32 rfl ?_
        refine lv_lmul hx hb dX2_spreadOne_33 ?_
        refine lv_ladd hx hb dX2_spreadOne_34 ?_
        refine gg_last (ws' := fun g7 => [(q, .inr (2, [.ref q_now, .ref q_behind, .ref q_waysOf, .int f_members, .long f_allWays, .long f_doneWays])), (q_waysOf, .inl (cJ, 6, .inr (.inl g7)))]) hx hb hK hP hD hS 1 1 rfl rfl dX2_spreadOne_35 (fun _ => rfl) hf (fun g7 H locs hP hD hS hf => ?_)
        refine gg_iinc (cst := (-1 : Int32)) (k := 2) (lv' := fun v8 => [(2, .int v8), (0, .ref q), (1, .int y1)]) hx hb dX2_spreadOne_36 hl rfl (by decide) (by decide) (fun _ => rfl) hf (fun v8 ls hl hf => ?_)
        refine lv_goto (tgt := 2) hx hb dX2_spreadOne_39 (by decide) ?_
        exact ih _ _ (hzN _ (Option.some.inj hf).symm) _ _ _ hP hD hS (lv_sub hl [1, 2, 0] rfl)
  unfold pX2_spreadOne at hf
  refine lv_iconst (v := (5 : Int32)) hx hb dX2_spreadOne_0 (by decide) ?_
  refine lv_istore_n (lv' := [(2, .int (5 : Int32)), (0, .ref q), (1, .int x1)]) hx hb dX2_spreadOne_1 rfl hl (by decide) rfl (fun ls hl => ?_)
  obtain ⟨w9, hlp, hf⟩ := gg_c1_x hf
  obtain ⟨nlp, hlp⟩ := gg_lp_x hlp
  refine L2 _ _ (fun H locs ls hP hD hS hl => ?_) nlp _ _ hlp _ _ _ hP hD hS (lv_sub hl [1, 2, 0] rfl)
  refine lv_aload_n hx hb dX2_spreadOne_42 rfl (lv_at hl 0 rfl) ?_
  refine gg_get hx hb hts iX2 hown hK hP 0 rfl rfl 2 (by decide) k18 rfl rfl dX2_spreadOne_43 ?_
  refine lv_iconst (v := (0 : Int32)) hx hb dX2_spreadOne_46 (by decide) ?_
  refine lv_dup2_11 hx hb dX2_spreadOne_47 rfl rfl ?_
  refine gg_lald hx hb hK hP 1 1 rfl rfl dX2_spreadOne_48 hf (fun hf => ?_)
  refine lv_bipush (v := (10 : Int32)) hx hb dX2_spreadOne_49 (by decide) ?_
  refine lv_iload_n hx hb dX2_spreadOne_51 rfl (lv_at hl 1 rfl) ?_
  refine lv_isub hx hb dX2_spreadOne_52 ?_
  refine lv_i2l hx hb dX2_spreadOne_53 rfl ?_
  refine lv_lmul hx hb dX2_spreadOne_54 ?_
  refine gg_last (ws' := fun g11 => [(q, .inr (2, [.ref q_now, .ref q_behind, .ref q_waysOf, .int f_members, .long f_allWays, .long f_doneWays])), (q_waysOf, .inl (cJ, 6, .inr (.inl g11)))]) hx hb hK hP hD hS 1 1 rfl rfl dX2_spreadOne_55 (fun _ => rfl) hf (fun g11 H locs hP hD hS hf => ?_)
  cases hf
  rw [hQ]
  exact gg_vret hx hb hr hlocks hS (Nat.le_of_ble_eq_true rfl) (Nat.le_of_ble_eq_true rfl) dX2_spreadOne_56 () rfl hP hD
set_option maxHeartbeats 4000000 in
set_option maxRecDepth 100000 in
theorem mX2_spread (l : Launch) (D : va_G) (cI cJ cZ cR : ClassId) (q q_waysOf q_p1 q_p1_roomOf q_p1_tenthsOf q_now q_behind q_p1_needs q_p1_colourOf q_p1_grudgeOf q_p1_quarrelOf : Nat) (f_members : Int32) (f_allWays : Int64) (f_doneWays : Int64) (f_waysOf : (Nat → Int64)) (f_p1_rooms : Int32) (f_p1_people : Int32) (f_p1_quarrels : Int32) (f_p1_roomOf : (Nat → Int32)) (f_p1_tenthsOf : (Nat → Int32)) (x2 : Int32) (nf_members : Int32) (nf_waysOf : (Nat → Int64)) (hf : pX2_spread f_members f_waysOf f_p1_people f_p1_roomOf f_p1_tenthsOf x2 = some (nf_members, nf_waysOf)) : gg_M gN vwCl (gg_T cI cJ cZ cR) l D yX2_spread wsX2_spread ({ frames := 1, cells := 0, slots := 0, locals := 22 } : Room) [.ref q, .ref q_p1, .int x2] [(q, .inr (2, [.ref q_now, .ref q_behind, .ref q_waysOf, .int f_members, .long f_allWays, .long f_doneWays])), (q_waysOf, .inl (cJ, 6, .inr (.inl f_waysOf))), (q_p1, .inr (4, [.int f_p1_rooms, .int f_p1_people, .int f_p1_quarrels, .ref q_p1_needs, .ref q_p1_roomOf, .ref q_p1_colourOf, .ref q_p1_grudgeOf, .ref q_p1_tenthsOf, .ref q_p1_quarrelOf])), (q_p1_roomOf, .inl (cI, 5, .inl f_p1_roomOf)), (q_p1_tenthsOf, .inl (cI, 5, .inl f_p1_tenthsOf))] (fun _ : Unit => none) (fun _ => [(q, .inr (2, [.ref q_now, .ref q_behind, .ref q_waysOf, .int nf_members, .long f_allWays, .long f_doneWays])), (q_waysOf, .inl (cJ, 6, .inr (.inl nf_waysOf))), (q_p1, .inr (4, [.int f_p1_rooms, .int f_p1_people, .int f_p1_quarrels, .ref q_p1_needs, .ref q_p1_roomOf, .ref q_p1_colourOf, .ref q_p1_grudgeOf, .ref q_p1_tenthsOf, .ref q_p1_quarrelOf])), (q_p1_roomOf, .inl (cI, 5, .inl f_p1_roomOf)), (q_p1_tenthsOf, .inl (cI, 5, .inl f_p1_tenthsOf))]) := by
  refine gg_M.of (cc := cX2_spread) (maxL := 4) (rt := none) (by decide) rfl (Nat.le_of_ble_eq_true rfl) ?_
  intro p e s m below meth c A args Q hQ hx hb hr hml hts hown hlocks hin hA hS hP hK hD ls hl
  replace hown : s.vm.findClass RX2 = some m.cls := hown
  replace hl : lv_has ls 4 [(0, .ref q), (1, .ref q_p1), (2, .int x2)] := hl
  have k18 := (hts (.fieldLink RX2 18 "AbsentCarpets$Chances" "waysOf" "[J") (List.mem_of_getElem? (i := 1) rfl))
  have k21 := (hts (.fieldLink RX2 21 "AbsentCarpets$Chances" "members" "I") (List.mem_of_getElem? (i := 2) rfl))
  have k54 := (hts (.fieldLink RX2 54 "AbsentCarpets$House" "people" "I") (List.mem_of_getElem? (i := 3) rfl))
  have k57 := (hts (.fieldLink RX2 57 "AbsentCarpets$House" "roomOf" "[I") (List.mem_of_getElem? (i := 4) rfl))
  have k60 := (hts (.fieldLink RX2 60 "AbsentCarpets$House" "tenthsOf" "[I") (List.mem_of_getElem? (i := 5) rfl))
  have iX2 : ∀ w ∈ wsX20, w ∈ wsX2_spread := fun _ h => List.mem_cons_of_mem _ (List.mem_append_left _ (List.mem_append_right _ (h)))
  have iX4 : ∀ w ∈ wsX40, w ∈ wsX2_spread := fun _ h => List.mem_cons_of_mem _ (List.mem_append_right _ (h))
  have L21 : ∀ (y3 : Int32) (w7 : Int32) (w8 : (Nat → Int64)), (∀ (H : Heap) (locs : List Loc) (ls : Array Slot), va_P D vwCl [(q, .inr (2, [.ref q_now, .ref q_behind, .ref q_waysOf, .int w7, .long f_allWays, .long f_doneWays])), (q_waysOf, .inl (cJ, 6, .inr (.inl w8))), (q_p1, .inr (4, [.int f_p1_rooms, .int f_p1_people, .int f_p1_quarrels, .ref q_p1_needs, .ref q_p1_roomOf, .ref q_p1_colourOf, .ref q_p1_grudgeOf, .ref q_p1_tenthsOf, .ref q_p1_quarrelOf])), (q_p1_roomOf, .inl (cI, 5, .inl f_p1_roomOf)), (q_p1_tenthsOf, .inl (cI, 5, .inl f_p1_tenthsOf))] H → va_D A [(q, .inr (2, [.ref q_now, .ref q_behind, .ref q_waysOf, .int w7, .long f_allWays, .long f_doneWays])), (q_waysOf, .inl (cJ, 6, .inr (.inl w8))), (q_p1, .inr (4, [.int f_p1_rooms, .int f_p1_people, .int f_p1_quarrels, .ref q_p1_needs, .ref q_p1_roomOf, .ref q_p1_colourOf, .ref q_p1_grudgeOf, .ref q_p1_tenthsOf, .ref q_p1_quarrelOf])), (q_p1_roomOf, .inl (cI, 5, .inl f_p1_roomOf)), (q_p1_tenthsOf, .inl (cI, 5, .inl f_p1_tenthsOf))] → va_S A s.heap H locs → lv_has ls 4 [] → W p l e ({ frames := 1, cells := 0, slots := 0, locals := 22 } : Room) s m args below meth c H locs 0 0 Q (F0 m 65 ls [])) → ∀ (nlp : Nat) (w4 : Int32) (w5 : (Nat → Int64)) (y6 : Int32), gg_lpF (fun (s : (Int32 × (Nat → Int64) × Int32)) => pX2_spread_L21 f_p1_people f_p1_roomOf f_p1_tenthsOf y3 s.1 s.2.1 s.2.2) nlp (w4, w5, y6) = some (w7, w8) → ∀ (H : Heap) (locs : List Loc) (ls : Array Slot), va_P D vwCl [(q, .inr (2, [.ref q_now, .ref q_behind, .ref q_waysOf, .int w4, .long f_allWays, .long f_doneWays])), (q_waysOf, .inl (cJ, 6, .inr (.inl w5))), (q_p1, .inr (4, [.int f_p1_rooms, .int f_p1_people, .int f_p1_quarrels, .ref q_p1_needs, .ref q_p1_roomOf, .ref q_p1_colourOf, .ref q_p1_grudgeOf, .ref q_p1_tenthsOf, .ref q_p1_quarrelOf])), (q_p1_roomOf, .inl (cI, 5, .inl f_p1_roomOf)), (q_p1_tenthsOf, .inl (cI, 5, .inl f_p1_tenthsOf))] H → va_D A [(q, .inr (2, [.ref q_now, .ref q_behind, .ref q_waysOf, .int w4, .long f_allWays, .long f_doneWays])), (q_waysOf, .inl (cJ, 6, .inr (.inl w5))), (q_p1, .inr (4, [.int f_p1_rooms, .int f_p1_people, .int f_p1_quarrels, .ref q_p1_needs, .ref q_p1_roomOf, .ref q_p1_colourOf, .ref q_p1_grudgeOf, .ref q_p1_tenthsOf, .ref q_p1_quarrelOf])), (q_p1_roomOf, .inl (cI, 5, .inl f_p1_roomOf)), (q_p1_tenthsOf, .inl (cI, 5, .inl f_p1_tenthsOf))] → va_S A s.heap H locs → lv_has ls 4 [(0, .ref q), (1, .ref q_p1), (2, .int y3), (3, .int y6)] → W p l e ({ frames := 1, cells := 0, slots := 0, locals := 22 } : Room) s m args below meth c H locs 0 0 Q (F0 m 21 ls []) := by
    intro y3 w7 w8 hE nlp
    induction nlp with
    | zero => intro w4 w5 y6 hf; cases hf
    | succ nlp ih =>
      intro w4 w5 y6 hf H locs ls hP hD hS hl
      obtain ⟨zz, hz, hzE, hzN⟩ := gg_lpF_x hf
      replace hf : pX2_spread_L21 f_p1_people f_p1_roomOf f_p1_tenthsOf y3 w4 w5 y6 = some zz := hz
      unfold pX2_spread_L21 at hf
      refine lv_iload_n hx hb dX2_spread_21 rfl (lv_at hl 3 rfl) ?_
      refine lv_aload_n hx hb dX2_spread_22 rfl (lv_at hl 1 rfl) ?_
      refine gg_get hx hb hts iX4 hown hK hP 2 rfl rfl 1 (by decide) k54 rfl rfl dX2_spread_23 ?_
      refine lv_icmp_ge (tgt := 65) hx hb dX2_spread_26 (by decide) (fun hc => ?_) (fun hc => ?_)
      · replace hf := gg_pos hf hc
        have hq := hzE _ (Option.some.inj hf).symm
        cases hq
        exact hE _ _ _ hP hD hS (lv_sub hl [] rfl)
      · replace hf := gg_neg hf hc
        refine lv_aload_n hx hb dX2_spread_29 rfl (lv_at hl 1 rfl) ?_
        refine gg_get hx hb hts iX4 hown hK hP 2 rfl rfl 4 (by decide) k57 rfl rfl dX2_spread_30 ?_
        refine lv_iload_n hx hb dX2_spread_33 rfl (lv_at hl 3 rfl) ?_
        refine gg_iald hx hb hK hP 3 0 rfl rfl dX2_spread_34 hf (fun hf => ?_)
        refine lv_iload_n hx hb dX2_spread_35 rfl (lv_at hl 2 rfl) ?_
        refine lv_icmp_ne (tgt := 59) hx hb dX2_spread_36 (by decide) (fun hc => ?_) (fun hc => ?_)
        · replace hf := gg_neg hf hc
          refine gg_iinc (cst := (1 : Int32)) (k := 3) (lv' := fun v10 => [(3, .int v10), (0, .ref q), (1, .ref q_p1), (2, .int y3)]) hx hb dX2_spread_59 hl rfl (by decide) (by decide) (fun _ => rfl) hf (fun v10 ls hl hf => ?_)
          refine lv_goto (tgt := 21) hx hb dX2_spread_62 (by decide) ?_
          exact ih _ _ _ (hzN _ (Option.some.inj hf).symm) _ _ _ hP hD hS (lv_sub hl [1, 2, 3, 0] rfl)
        · replace hf := gg_pos hf hc
          refine lv_aload_n hx hb dX2_spread_39 rfl (lv_at hl 0 rfl) ?_
          refine lv_dup hx hb dX2_spread_40 rfl ?_
          refine gg_get hx hb hts iX2 hown hK hP 0 rfl rfl 3 (by decide) k21 rfl rfl dX2_spread_41 ?_
          refine lv_iconst (v := (1 : Int32)) hx hb dX2_spread_44 (by decide) ?_
          refine lv_iadd hx hb dX2_spread_45 ?_
          refine gg_topi hf (fun v11 hf => ?_)
          refine gg_put (ws' := [(q, .inr (2, [.ref q_now, .ref q_behind, .ref q_waysOf, .int v11, .long f_allWays, .long f_doneWays])), (q_waysOf, .inl (cJ, 6, .inr (.inl w5))), (q_p1, .inr (4, [.int f_p1_rooms, .int f_p1_people, .int f_p1_quarrels, .ref q_p1_needs, .ref q_p1_roomOf, .ref q_p1_colourOf, .ref q_p1_grudgeOf, .ref q_p1_tenthsOf, .ref q_p1_quarrelOf])), (q_p1_roomOf, .inl (cI, 5, .inl f_p1_roomOf)), (q_p1_tenthsOf, .inl (cI, 5, .inl f_p1_tenthsOf))]) hx hb hts iX2 tyX2_ok nmX2 hown hK hP hD hS 0 rfl rfl 3 (by decide) k21 rfl rfl rfl rfl rfl (Nat.le_of_ble_eq_true rfl) dX2_spread_46 rfl (fun H locs hP hD hS => ?_)
          refine lv_aload_n hx hb dX2_spread_49 rfl (lv_at hl 0 rfl) ?_
          refine lv_aload_n hx hb dX2_spread_50 rfl (lv_at hl 1 rfl) ?_
          refine gg_get hx hb hts iX4 hown hK hP 2 rfl rfl 7 (by decide) k60 rfl rfl dX2_spread_51 ?_
          refine lv_iload_n hx hb dX2_spread_54 rfl (lv_at hl 3 rfl) ?_
          refine gg_iald hx hb hK hP 4 0 rfl rfl dX2_spread_55 hf (fun hf => ?_)
          obtain ⟨u13, hu, hf⟩ := gg_c1_x hf
          refine gg_callV (wr := [(q_p1, .inr (4, [.int f_p1_rooms, .int f_p1_people, .int f_p1_quarrels, .ref q_p1_needs, .ref q_p1_roomOf, .ref q_p1_colourOf, .ref q_p1_grudgeOf, .ref q_p1_tenthsOf, .ref q_p1_quarrelOf])), (q_p1_roomOf, .inl (cI, 5, .inl f_p1_roomOf)), (q_p1_tenthsOf, .inl (cI, 5, .inl f_p1_tenthsOf))]) (w2 := fun _ => [(q, .inr (2, [.ref q_now, .ref q_behind, .ref q_waysOf, .int v11, .long f_allWays, .long f_doneWays])), (q_waysOf, .inl (cJ, 6, .inr (.inl u13))), (q_p1, .inr (4, [.int f_p1_rooms, .int f_p1_people, .int f_p1_quarrels, .ref q_p1_needs, .ref q_p1_roomOf, .ref q_p1_colourOf, .ref q_p1_grudgeOf, .ref q_p1_tenthsOf, .ref q_p1_quarrelOf])), (q_p1_roomOf, .inl (cI, 5, .inl f_p1_roomOf)), (q_p1_tenthsOf, .inl (cI, 5, .inl f_p1_tenthsOf))]) ⟨hx, hb, hml, hown, hts⟩ (mX2_spreadOne l D cI cJ cZ cR q q_waysOf q_now q_behind v11 f_allWays f_doneWays w5 _ u13 hu) (cwV 1 hts gX2_spread_X2_spreadOne rfl rfl rfl (by decide +kernel) ⟨Nat.le_of_ble_eq_true rfl, Nat.le_of_ble_eq_true rfl⟩) hK hP hD hS hA 0 rfl rfl rfl rfl hl.1 rfl (Nat.le_of_ble_eq_true rfl) dX2_spread_56 ⟨Nat.le_of_ble_eq_true rfl, Nat.le_of_ble_eq_true rfl⟩ [0, 1] [2, 3, 4] rfl rfl rfl rfl rfl [3, 4, 0, 1, 2] rfl (fun _ => rfl) (fun _ H locs hP hD hS => ?_)
          refine gg_st_v ?_
          refine gg_iinc (cst := (1 : Int32)) (k := 3) (lv' := fun v14 => [(3, .int v14), (0, .ref q), (1, .ref q_p1), (2, .int y3)]) hx hb dX2_spread_59 hl rfl (by decide) (by decide) (fun _ => rfl) hf (fun v14 ls hl hf => ?_)
          refine lv_goto (tgt := 21) hx hb dX2_spread_62 (by decide) ?_
          exact ih _ _ _ (hzN _ (Option.some.inj hf).symm) _ _ _ hP hD hS (lv_sub hl [1, 2, 3, 0] rfl)
  unfold pX2_spread at hf
  refine lv_aload_n hx hb dX2_spread_0 rfl (lv_at hl 0 rfl) ?_
  refine gg_get hx hb hts iX2 hown hK hP 0 rfl rfl 2 (by decide) k18 rfl rfl dX2_spread_1 ?_
  obtain ⟨u1, hu, hf⟩ := gg_c1_x hf
  refine gg_callS (wr := [(q, .inr (2, [.ref q_now, .ref q_behind, .ref q_waysOf, .int f_members, .long f_allWays, .long f_doneWays])), (q_p1, .inr (4, [.int f_p1_rooms, .int f_p1_people, .int f_p1_quarrels, .ref q_p1_needs, .ref q_p1_roomOf, .ref q_p1_colourOf, .ref q_p1_grudgeOf, .ref q_p1_tenthsOf, .ref q_p1_quarrelOf])), (q_p1_roomOf, .inl (cI, 5, .inl f_p1_roomOf)), (q_p1_tenthsOf, .inl (cI, 5, .inl f_p1_tenthsOf))]) (w2 := fun _ => [(q, .inr (2, [.ref q_now, .ref q_behind, .ref q_waysOf, .int f_members, .long f_allWays, .long f_doneWays])), (q_waysOf, .inl (cJ, 6, .inr (.inl u1))), (q_p1, .inr (4, [.int f_p1_rooms, .int f_p1_people, .int f_p1_quarrels, .ref q_p1_needs, .ref q_p1_roomOf, .ref q_p1_colourOf, .ref q_p1_grudgeOf, .ref q_p1_tenthsOf, .ref q_p1_quarrelOf])), (q_p1_roomOf, .inl (cI, 5, .inl f_p1_roomOf)), (q_p1_tenthsOf, .inl (cI, 5, .inl f_p1_tenthsOf))]) ⟨hx, hb, hml, hown, hts⟩ (mX2_clear l D cI cJ cZ cR q_waysOf 6 f_waysOf  u1 hu) (va_cwS 1 hts gX2_spread_X2_clear rfl rfl rfl (by decide +kernel) ⟨Nat.le_of_ble_eq_true rfl, Nat.le_of_ble_eq_true rfl⟩) hK hP hD hS hA rfl hl.1 rfl (Nat.le_of_ble_eq_true rfl) dX2_spread_4 ⟨Nat.le_of_ble_eq_true rfl, Nat.le_of_ble_eq_true rfl⟩ [1] [0, 2, 3, 4] rfl rfl rfl rfl rfl [0, 4, 1, 2, 3] rfl (fun _ => rfl) (fun _ H locs hP hD hS => ?_)
  refine gg_st_v ?_
  refine lv_aload_n hx hb dX2_spread_7 rfl (lv_at hl 0 rfl) ?_
  refine gg_get hx hb hts iX2 hown hK hP 0 rfl rfl 2 (by decide) k18 rfl rfl dX2_spread_8 ?_
  refine lv_iconst (v := (0 : Int32)) hx hb dX2_spread_11 (by decide) ?_
  refine lv_lconst (v := (1 : Int64)) hx hb dX2_spread_12 (by decide) ?_
  refine gg_last (ws' := fun g2 => [(q, .inr (2, [.ref q_now, .ref q_behind, .ref q_waysOf, .int f_members, .long f_allWays, .long f_doneWays])), (q_waysOf, .inl (cJ, 6, .inr (.inl g2))), (q_p1, .inr (4, [.int f_p1_rooms, .int f_p1_people, .int f_p1_quarrels, .ref q_p1_needs, .ref q_p1_roomOf, .ref q_p1_colourOf, .ref q_p1_grudgeOf, .ref q_p1_tenthsOf, .ref q_p1_quarrelOf])), (q_p1_roomOf, .inl (cI, 5, .inl f_p1_roomOf)), (q_p1_tenthsOf, .inl (cI, 5, .inl f_p1_tenthsOf))]) hx hb hK hP hD hS 1 1 rfl rfl dX2_spread_13 (fun _ => rfl) hf (fun g2 H locs hP hD hS hf => ?_)
  refine lv_aload_n hx hb dX2_spread_14 rfl (lv_at hl 0 rfl) ?_
  refine lv_iconst (v := (0 : Int32)) hx hb dX2_spread_15 (by decide) ?_
  refine gg_put (ws' := [(q, .inr (2, [.ref q_now, .ref q_behind, .ref q_waysOf, .int (0 : Int32), .long f_allWays, .long f_doneWays])), (q_waysOf, .inl (cJ, 6, .inr (.inl g2))), (q_p1, .inr (4, [.int f_p1_rooms, .int f_p1_people, .int f_p1_quarrels, .ref q_p1_needs, .ref q_p1_roomOf, .ref q_p1_colourOf, .ref q_p1_grudgeOf, .ref q_p1_tenthsOf, .ref q_p1_quarrelOf])), (q_p1_roomOf, .inl (cI, 5, .inl f_p1_roomOf)), (q_p1_tenthsOf, .inl (cI, 5, .inl f_p1_tenthsOf))]) hx hb hts iX2 tyX2_ok nmX2 hown hK hP hD hS 0 rfl rfl 3 (by decide) k21 rfl rfl rfl rfl rfl (Nat.le_of_ble_eq_true rfl) dX2_spread_16 rfl (fun H locs hP hD hS => ?_)
  refine lv_iconst (v := (0 : Int32)) hx hb dX2_spread_19 (by decide) ?_
  refine lv_istore_n (lv' := [(3, .int (0 : Int32)), (0, .ref q), (1, .ref q_p1), (2, .int x2)]) hx hb dX2_spread_20 rfl hl (by decide) rfl (fun ls hl => ?_)
  obtain ⟨w15, w16, hlp, hf⟩ := gg_c2_x hf
  obtain ⟨nlp, hlp⟩ := gg_lp_x hlp
  refine L21 _ _ _ (fun H locs ls hP hD hS hl => ?_) nlp _ _ _ hlp _ _ _ hP hD hS (lv_sub hl [1, 2, 3, 0] rfl)
  cases hf
  rw [hQ]
  exact gg_vret hx hb hr hlocks hS (Nat.le_of_ble_eq_true rfl) (Nat.le_of_ble_eq_true rfl) dX2_spread_65 () rfl hP hD
set_option maxHeartbeats 4000000 in
set_option maxRecDepth 100000 in
theorem mX2_goOn (l : Launch) (D : va_G) (cI cJ cZ cR : ClassId) (q q_now q_behind q_waysOf : Nat) (f_members : Int32) (f_allWays : Int64) (f_doneWays : Int64) (f_now : (Nat → Int64)) (f_behind : (Nat → Int64)) (f_waysOf : (Nat → Int64)) (x1 : Int32) (nf_allWays : Int64) (nf_now : (Nat → Int64)) (nf_behind : (Nat → Int64)) (hf : pX2_goOn f_members f_allWays f_now f_behind f_waysOf x1 = some (nf_allWays, nf_now, nf_behind)) : gg_M gN vwCl (gg_T cI cJ cZ cR) l D yX2_goOn wsX2_goOn ({ frames := 2, cells := 0, slots := 0, locals := 39 } : Room) [.ref q, .int x1] [(q, .inr (2, [.ref q_now, .ref q_behind, .ref q_waysOf, .int f_members, .long f_allWays, .long f_doneWays])), (q_now, .inl (cJ, 124, .inr (.inl f_now))), (q_behind, .inl (cJ, 124, .inr (.inl f_behind))), (q_waysOf, .inl (cJ, 6, .inr (.inl f_waysOf)))] (fun _ : Unit => none) (fun _ => [(q, .inr (2, [.ref q_now, .ref q_behind, .ref q_waysOf, .int f_members, .long nf_allWays, .long f_doneWays])), (q_now, .inl (cJ, 124, .inr (.inl nf_now))), (q_behind, .inl (cJ, 124, .inr (.inl nf_behind))), (q_waysOf, .inl (cJ, 6, .inr (.inl f_waysOf)))]) := by
  refine gg_M.of (cc := cX2_goOn) (maxL := 4) (rt := none) (by decide) rfl (Nat.le_of_ble_eq_true rfl) ?_
  intro p e s m below meth c A args Q hQ hx hb hr hml hts hown hlocks hin hA hS hP hK hD ls hl
  replace hown : s.vm.findClass RX2 = some m.cls := hown
  replace hl : lv_has ls 4 [(0, .ref q), (1, .int x1)] := hl
  have k15 := (hts (.fieldLink RX2 15 "AbsentCarpets$Chances" "behind" "[J") (List.mem_of_getElem? (i := 1) rfl))
  have k21 := (hts (.fieldLink RX2 21 "AbsentCarpets$Chances" "members" "I") (List.mem_of_getElem? (i := 2) rfl))
  have k9 := (hts (.fieldLink RX2 9 "AbsentCarpets$Chances" "now" "[J") (List.mem_of_getElem? (i := 3) rfl))
  have k18 := (hts (.fieldLink RX2 18 "AbsentCarpets$Chances" "waysOf" "[J") (List.mem_of_getElem? (i := 4) rfl))
  have k25 := (hts (.fieldLink RX2 25 "AbsentCarpets$Chances" "allWays" "J") (List.mem_of_getElem? (i := 9) rfl))
  have iX2 : ∀ w ∈ wsX20, w ∈ wsX2_goOn := fun _ h => List.mem_cons_of_mem _ (List.mem_append_right _ (h))
  have L17 : ∀ (w8 : Int64) (w9 : (Nat → Int64)) (y10 : Int32) (y11 : Int32) (w14 : (Nat → Int64)), (∀ (H : Heap) (locs : List Loc) (ls : Array Slot), va_P D vwCl [(q, .inr (2, [.ref q_now, .ref q_behind, .ref q_waysOf, .int f_members, .long w8, .long f_doneWays])), (q_now, .inl (cJ, 124, .inr (.inl w9))), (q_behind, .inl (cJ, 124, .inr (.inl w14))), (q_waysOf, .inl (cJ, 6, .inr (.inl f_waysOf)))] H → va_D A [(q, .inr (2, [.ref q_now, .ref q_behind, .ref q_waysOf, .int f_members, .long w8, .long f_doneWays])), (q_now, .inl (cJ, 124, .inr (.inl w9))), (q_behind, .inl (cJ, 124, .inr (.inl w14))), (q_waysOf, .inl (cJ, 6, .inr (.inl f_waysOf)))] → va_S A s.heap H locs → lv_has ls 4 [(0, .ref q), (1, .int y10), (2, .int y11)] → W p l e ({ frames := 2, cells := 0, slots := 0, locals := 39 } : Room) s m args below meth c H locs 0 0 Q (F0 m 75 ls [])) → ∀ (nlp : Nat) (w12 : (Nat → Int64)) (y13 : Int32), gg_lpF (fun (s : ((Nat → Int64) × Int32)) => pX2_goOn_L17 f_members f_waysOf w8 w9 y10 y11 s.1 s.2) nlp (w12, y13) = some w14 → ∀ (H : Heap) (locs : List Loc) (ls : Array Slot), va_P D vwCl [(q, .inr (2, [.ref q_now, .ref q_behind, .ref q_waysOf, .int f_members, .long w8, .long f_doneWays])), (q_now, .inl (cJ, 124, .inr (.inl w9))), (q_behind, .inl (cJ, 124, .inr (.inl w12))), (q_waysOf, .inl (cJ, 6, .inr (.inl f_waysOf)))] H → va_D A [(q, .inr (2, [.ref q_now, .ref q_behind, .ref q_waysOf, .int f_members, .long w8, .long f_doneWays])), (q_now, .inl (cJ, 124, .inr (.inl w9))), (q_behind, .inl (cJ, 124, .inr (.inl w12))), (q_waysOf, .inl (cJ, 6, .inr (.inl f_waysOf)))] → va_S A s.heap H locs → lv_has ls 4 [(0, .ref q), (1, .int y10), (2, .int y11), (3, .int y13)] → W p l e ({ frames := 2, cells := 0, slots := 0, locals := 39 } : Room) s m args below meth c H locs 0 0 Q (F0 m 17 ls []) := by
    intro w8 w9 y10 y11 w14 hE nlp
    induction nlp with
    | zero => intro w12 y13 hf; cases hf
    | succ nlp ih =>
      intro w12 y13 hf H locs ls hP hD hS hl
      obtain ⟨zz, hz, hzE, hzN⟩ := gg_lpF_x hf
      replace hf : pX2_goOn_L17 f_members f_waysOf w8 w9 y10 y11 w12 y13 = some zz := hz
      unfold pX2_goOn_L17 at hf
      refine lv_iload_n hx hb dX2_goOn_17 rfl (lv_at hl 3 rfl) ?_
      refine lv_aload_n hx hb dX2_goOn_18 rfl (lv_at hl 0 rfl) ?_
      refine gg_get hx hb hts iX2 hown hK hP 0 rfl rfl 3 (by decide) k21 rfl rfl dX2_goOn_19 ?_
      refine lv_icmp_gt (tgt := 75) hx hb dX2_goOn_22 (by decide) (fun hc => ?_) (fun hc => ?_)
      · replace hf := gg_pos hf hc
        have hq := hzE _ (Option.some.inj hf).symm
        cases hq
        exact hE _ _ _ hP hD hS (lv_sub hl [0, 1, 2] rfl)
      · replace hf := gg_neg hf hc
        refine lv_aload_n hx hb dX2_goOn_25 rfl (lv_at hl 0 rfl) ?_
        refine gg_get hx hb hts iX2 hown hK hP 0 rfl rfl 0 (by decide) k9 rfl rfl dX2_goOn_26 ?_
        refine lv_iload_n hx hb dX2_goOn_29 rfl (lv_at hl 2 rfl) ?_
        refine gg_lald hx hb hK hP 1 1 rfl rfl dX2_goOn_30 hf (fun hf => ?_)
        refine lv_lconst (v := (0 : Int64)) hx hb dX2_goOn_31 (by decide) ?_
        refine W.lcmp hx hb dX2_goOn_32 ?_
        refine lv_if_eq (tgt := 75) hx hb dX2_goOn_33 (by decide) (fun hc => ?_) (fun hc => ?_)
        · replace hf := gg_pos hf hc
          have hq := hzE _ (Option.some.inj hf).symm
          cases hq
          exact hE _ _ _ hP hD hS (lv_sub hl [0, 1, 2] rfl)
        · replace hf := gg_neg hf hc
          refine lv_aload_n hx hb dX2_goOn_36 rfl (lv_at hl 0 rfl) ?_
          refine gg_get hx hb hts iX2 hown hK hP 0 rfl rfl 1 (by decide) k15 rfl rfl dX2_goOn_37 ?_
          refine lv_iload_n hx hb dX2_goOn_40 rfl (lv_at hl 2 rfl) ?_
          refine lv_iload_n hx hb dX2_goOn_41 rfl (lv_at hl 1 rfl) ?_
          refine lv_iload_n hx hb dX2_goOn_42 rfl (lv_at hl 3 rfl) ?_
          refine lv_aload_n hx hb dX2_goOn_43 rfl (lv_at hl 0 rfl) ?_
          refine gg_get hx hb hts iX2 hown hK hP 0 rfl rfl 3 (by decide) k21 rfl rfl dX2_goOn_44 ?_
          refine lv_iload_n hx hb dX2_goOn_47 rfl (lv_at hl 3 rfl) ?_
          refine lv_isub hx hb dX2_goOn_48 ?_
          obtain ⟨r16, hu, hf⟩ := gg_c1_x hf
          refine gg_callSN (wr := [(q, .inr (2, [.ref q_now, .ref q_behind, .ref q_waysOf, .int f_members, .long w8, .long f_doneWays])), (q_now, .inl (cJ, 124, .inr (.inl w9))), (q_behind, .inl (cJ, 124, .inr (.inl w12))), (q_waysOf, .inl (cJ, 6, .inr (.inl f_waysOf)))]) (w2 := fun _ => [(q, .inr (2, [.ref q_now, .ref q_behind, .ref q_waysOf, .int f_members, .long w8, .long f_doneWays])), (q_now, .inl (cJ, 124, .inr (.inl w9))), (q_behind, .inl (cJ, 124, .inr (.inl w12))), (q_waysOf, .inl (cJ, 6, .inr (.inl f_waysOf)))]) ⟨hx, hb, hml, hown, hts⟩ (mX7_behindDinner l D cI cJ cZ cR   _ _ _ _ r16 hu) ⟨va_cnB 4 hts gX2_goOn_X7_behindDinner_n66 rfl rfl rfl (hK.2.1 (RX2, 66, yX7_behindDinner, RX7) (List.mem_of_getElem? (i := 9) rfl)) (hts (.initialized RX7) (List.mem_of_getElem? (i := 16) rfl)) (by decide +kernel) ⟨Nat.le_of_ble_eq_true rfl, Nat.le_of_ble_eq_true rfl⟩, (hts (.static yX7_behindDinner) (List.mem_of_getElem? (i := 15) rfl)), trivial⟩ hK hP hD hS hA rfl hl.1 rfl (Nat.le_of_ble_eq_true rfl) dX2_goOn_49 ⟨Nat.le_of_ble_eq_true rfl, Nat.le_of_ble_eq_true rfl⟩ [] [0, 1, 2, 3] rfl rfl rfl rfl rfl [0, 1, 2, 3] rfl (fun _ => rfl) (fun _ H locs hP hD hS => ?_)
          refine gg_st_i ?_
          refine lv_dup2_11 hx hb dX2_goOn_52 rfl rfl ?_
          refine gg_lald hx hb hK hP 2 1 rfl rfl dX2_goOn_53 hf (fun hf => ?_)
          refine lv_aload_n hx hb dX2_goOn_54 rfl (lv_at hl 0 rfl) ?_
          refine gg_get hx hb hts iX2 hown hK hP 0 rfl rfl 0 (by decide) k9 rfl rfl dX2_goOn_55 ?_
          refine lv_iload_n hx hb dX2_goOn_58 rfl (lv_at hl 2 rfl) ?_
          refine gg_lald hx hb hK hP 1 1 rfl rfl dX2_goOn_59 hf (fun hf => ?_)
          refine lv_aload_n hx hb dX2_goOn_60 rfl (lv_at hl 0 rfl) ?_
          refine gg_get hx hb hts iX2 hown hK hP 0 rfl rfl 2 (by decide) k18 rfl rfl dX2_goOn_61 ?_
          refine lv_iload_n hx hb dX2_goOn_64 rfl (lv_at hl 3 rfl) ?_
          refine gg_lald hx hb hK hP 3 1 rfl rfl dX2_goOn_65 hf (fun hf => ?_)
          refine lv_lmul hx hb dX2_goOn_66 ?_
          refine lv_ladd hx hb dX2_goOn_67 ?_
          refine gg_last (ws' := fun g20 => [(q, .inr (2, [.ref q_now, .ref q_behind, .ref q_waysOf, .int f_members, .long w8, .long f_doneWays])), (q_now, .inl (cJ, 124, .inr (.inl w9))), (q_behind, .inl (cJ, 124, .inr (.inl g20))), (q_waysOf, .inl (cJ, 6, .inr (.inl f_waysOf)))]) hx hb hK hP hD hS 2 1 rfl rfl dX2_goOn_68 (fun _ => rfl) hf (fun g20 H locs hP hD hS hf => ?_)
          refine gg_iinc (cst := (1 : Int32)) (k := 3) (lv' := fun v21 => [(3, .int v21), (0, .ref q), (1, .int y10), (2, .int y11)]) hx hb dX2_goOn_69 hl rfl (by decide) (by decide) (fun _ => rfl) hf (fun v21 ls hl hf => ?_)
          refine lv_goto (tgt := 17) hx hb dX2_goOn_72 (by decide) ?_
          exact ih _ _ (hzN _ (Option.some.inj hf).symm) _ _ _ hP hD hS (lv_sub hl [1, 2, 3, 0] rfl)
  have L9 : ∀ (w2 : Int64) (w3 : (Nat → Int64)) (y4 : Int32) (w7 : (Nat → Int64)), (∀ (H : Heap) (locs : List Loc) (ls : Array Slot), va_P D vwCl [(q, .inr (2, [.ref q_now, .ref q_behind, .ref q_waysOf, .int f_members, .long w2, .long f_doneWays])), (q_now, .inl (cJ, 124, .inr (.inl w3))), (q_behind, .inl (cJ, 124, .inr (.inl w7))), (q_waysOf, .inl (cJ, 6, .inr (.inl f_waysOf)))] H → va_D A [(q, .inr (2, [.ref q_now, .ref q_behind, .ref q_waysOf, .int f_members, .long w2, .long f_doneWays])), (q_now, .inl (cJ, 124, .inr (.inl w3))), (q_behind, .inl (cJ, 124, .inr (.inl w7))), (q_waysOf, .inl (cJ, 6, .inr (.inl f_waysOf)))] → va_S A s.heap H locs → lv_has ls 4 [(0, .ref q)] → W p l e ({ frames := 2, cells := 0, slots := 0, locals := 39 } : Room) s m args below meth c H locs 0 0 Q (F0 m 81 ls [])) → ∀ (nlp : Nat) (w5 : (Nat → Int64)) (y6 : Int32), gg_lpF (fun (s : ((Nat → Int64) × Int32)) => pX2_goOn_L9 f_members f_waysOf w2 w3 y4 s.1 s.2) nlp (w5, y6) = some w7 → ∀ (H : Heap) (locs : List Loc) (ls : Array Slot), va_P D vwCl [(q, .inr (2, [.ref q_now, .ref q_behind, .ref q_waysOf, .int f_members, .long w2, .long f_doneWays])), (q_now, .inl (cJ, 124, .inr (.inl w3))), (q_behind, .inl (cJ, 124, .inr (.inl w5))), (q_waysOf, .inl (cJ, 6, .inr (.inl f_waysOf)))] H → va_D A [(q, .inr (2, [.ref q_now, .ref q_behind, .ref q_waysOf, .int f_members, .long w2, .long f_doneWays])), (q_now, .inl (cJ, 124, .inr (.inl w3))), (q_behind, .inl (cJ, 124, .inr (.inl w5))), (q_waysOf, .inl (cJ, 6, .inr (.inl f_waysOf)))] → va_S A s.heap H locs → lv_has ls 4 [(0, .ref q), (1, .int y4), (2, .int y6)] → W p l e ({ frames := 2, cells := 0, slots := 0, locals := 39 } : Room) s m args below meth c H locs 0 0 Q (F0 m 9 ls []) := by
    intro w2 w3 y4 w7 hE nlp
    induction nlp with
    | zero => intro w5 y6 hf; cases hf
    | succ nlp ih =>
      intro w5 y6 hf H locs ls hP hD hS hl
      obtain ⟨zz, hz, hzE, hzN⟩ := gg_lpF_x hf
      replace hf : pX2_goOn_L9 f_members f_waysOf w2 w3 y4 w5 y6 = some zz := hz
      unfold pX2_goOn_L9 at hf
      refine lv_iload_n hx hb dX2_goOn_9 rfl (lv_at hl 2 rfl) ?_
      refine lv_bipush (v := (124 : Int32)) hx hb dX2_goOn_10 (by decide) ?_
      refine lv_icmp_ge (tgt := 81) hx hb dX2_goOn_12 (by decide) (fun hc => ?_) (fun hc => ?_)
      · replace hf := gg_pos hf hc
        have hq := hzE _ (Option.some.inj hf).symm
        cases hq
        exact hE _ _ _ hP hD hS (lv_sub hl [0] rfl)
      · replace hf := gg_neg hf hc
        refine lv_iconst (v := (0 : Int32)) hx hb dX2_goOn_15 (by decide) ?_
        refine lv_istore_n (lv' := [(3, .int (0 : Int32)), (0, .ref q), (1, .int y4), (2, .int y6)]) hx hb dX2_goOn_16 rfl hl (by decide) rfl (fun ls hl => ?_)
        obtain ⟨w22, hlp, hf⟩ := gg_c1_x hf
        obtain ⟨nlp, hlp⟩ := gg_lp_x hlp
        refine L17 _ _ _ _ _ (fun H locs ls hP hD hS hl => ?_) nlp _ _ hlp _ _ _ hP hD hS (lv_sub hl [1, 2, 3, 0] rfl)
        refine gg_iinc (cst := (1 : Int32)) (k := 2) (lv' := fun v23 => [(2, .int v23), (0, .ref q), (1, .int y4)]) hx hb dX2_goOn_75 hl rfl (by decide) (by decide) (fun _ => rfl) hf (fun v23 ls hl hf => ?_)
        refine lv_goto (tgt := 9) hx hb dX2_goOn_78 (by decide) ?_
        exact ih _ _ (hzN _ (Option.some.inj hf).symm) _ _ _ hP hD hS (lv_sub hl [1, 2, 0] rfl)
  have L98 : ∀ (w26 : (Nat → Int64)) (w27 : (Nat → Int64)) (w30 : Int64), (∀ (H : Heap) (locs : List Loc) (ls : Array Slot), va_P D vwCl [(q, .inr (2, [.ref q_now, .ref q_behind, .ref q_waysOf, .int f_members, .long w30, .long f_doneWays])), (q_now, .inl (cJ, 124, .inr (.inl w26))), (q_behind, .inl (cJ, 124, .inr (.inl w27))), (q_waysOf, .inl (cJ, 6, .inr (.inl f_waysOf)))] H → va_D A [(q, .inr (2, [.ref q_now, .ref q_behind, .ref q_waysOf, .int f_members, .long w30, .long f_doneWays])), (q_now, .inl (cJ, 124, .inr (.inl w26))), (q_behind, .inl (cJ, 124, .inr (.inl w27))), (q_waysOf, .inl (cJ, 6, .inr (.inl f_waysOf)))] → va_S A s.heap H locs → lv_has ls 4 [] → W p l e ({ frames := 2, cells := 0, slots := 0, locals := 39 } : Room) s m args below meth c H locs 0 0 Q (F0 m 124 ls [])) → ∀ (nlp : Nat) (w28 : Int64) (y29 : Int32), gg_lpF (fun (s : (Int64 × Int32)) => pX2_goOn_L98 f_members f_waysOf w26 w27 s.1 s.2) nlp (w28, y29) = some w30 → ∀ (H : Heap) (locs : List Loc) (ls : Array Slot), va_P D vwCl [(q, .inr (2, [.ref q_now, .ref q_behind, .ref q_waysOf, .int f_members, .long w28, .long f_doneWays])), (q_now, .inl (cJ, 124, .inr (.inl w26))), (q_behind, .inl (cJ, 124, .inr (.inl w27))), (q_waysOf, .inl (cJ, 6, .inr (.inl f_waysOf)))] H → va_D A [(q, .inr (2, [.ref q_now, .ref q_behind, .ref q_waysOf, .int f_members, .long w28, .long f_doneWays])), (q_now, .inl (cJ, 124, .inr (.inl w26))), (q_behind, .inl (cJ, 124, .inr (.inl w27))), (q_waysOf, .inl (cJ, 6, .inr (.inl f_waysOf)))] → va_S A s.heap H locs → lv_has ls 4 [(0, .ref q), (2, .int y29)] → W p l e ({ frames := 2, cells := 0, slots := 0, locals := 39 } : Room) s m args below meth c H locs 0 0 Q (F0 m 98 ls []) := by
    intro w26 w27 w30 hE nlp
    induction nlp with
    | zero => intro w28 y29 hf; cases hf
    | succ nlp ih =>
      intro w28 y29 hf H locs ls hP hD hS hl
      obtain ⟨zz, hz, hzE, hzN⟩ := gg_lpF_x hf
      replace hf : pX2_goOn_L98 f_members f_waysOf w26 w27 w28 y29 = some zz := hz
      unfold pX2_goOn_L98 at hf
      refine lv_iload_n hx hb dX2_goOn_98 rfl (lv_at hl 1 rfl) ?_
      refine lv_aload_n hx hb dX2_goOn_99 rfl (lv_at hl 0 rfl) ?_
      refine gg_get hx hb hts iX2 hown hK hP 0 rfl rfl 3 (by decide) k21 rfl rfl dX2_goOn_100 ?_
      refine lv_icmp_ge (tgt := 124) hx hb dX2_goOn_103 (by decide) (fun hc => ?_) (fun hc => ?_)
      · replace hf := gg_pos hf hc
        have hq := hzE _ (Option.some.inj hf).symm
        cases hq
        exact hE _ _ _ hP hD hS (lv_sub hl [] rfl)
      · replace hf := gg_neg hf hc
        refine lv_aload_n hx hb dX2_goOn_106 rfl (lv_at hl 0 rfl) ?_
        refine lv_dup hx hb dX2_goOn_107 rfl ?_
        refine gg_get hx hb hts iX2 hown hK hP 0 rfl rfl 4 (by decide) k25 rfl rfl dX2_goOn_108 ?_
        refine lv_ldc2 (v := (10 : Int64)) hx hb hown (hts (.constantLong RX2 76 (10)) (List.mem_of_getElem? (i := 10) rfl)) dX2_goOn_111 ?_
        refine lv_lmul hx hb dX2_goOn_114 ?_
        refine gg_topl hf (fun v31 hf => ?_)
        refine gg_put (ws' := [(q, .inr (2, [.ref q_now, .ref q_behind, .ref q_waysOf, .int f_members, .long v31, .long f_doneWays])), (q_now, .inl (cJ, 124, .inr (.inl w26))), (q_behind, .inl (cJ, 124, .inr (.inl w27))), (q_waysOf, .inl (cJ, 6, .inr (.inl f_waysOf)))]) hx hb hts iX2 tyX2_ok nmX2 hown hK hP hD hS 0 rfl rfl 4 (by decide) k25 rfl rfl rfl rfl rfl (Nat.le_of_ble_eq_true rfl) dX2_goOn_115 rfl (fun H locs hP hD hS => ?_)
        refine gg_iinc (cst := (1 : Int32)) (k := 1) (lv' := fun v32 => [(2, .int v32), (0, .ref q)]) hx hb dX2_goOn_118 hl rfl (by decide) (by decide) (fun _ => rfl) hf (fun v32 ls hl hf => ?_)
        refine lv_goto (tgt := 98) hx hb dX2_goOn_121 (by decide) ?_
        exact ih _ _ (hzN _ (Option.some.inj hf).symm) _ _ _ hP hD hS (lv_sub hl [1, 0] rfl)
  unfold pX2_goOn at hf
  refine lv_aload_n hx hb dX2_goOn_0 rfl (lv_at hl 0 rfl) ?_
  refine gg_get hx hb hts iX2 hown hK hP 0 rfl rfl 1 (by decide) k15 rfl rfl dX2_goOn_1 ?_
  obtain ⟨u1, hu, hf⟩ := gg_c1_x hf
  refine gg_callS (wr := [(q, .inr (2, [.ref q_now, .ref q_behind, .ref q_waysOf, .int f_members, .long f_allWays, .long f_doneWays])), (q_now, .inl (cJ, 124, .inr (.inl f_now))), (q_waysOf, .inl (cJ, 6, .inr (.inl f_waysOf)))]) (w2 := fun _ => [(q, .inr (2, [.ref q_now, .ref q_behind, .ref q_waysOf, .int f_members, .long f_allWays, .long f_doneWays])), (q_now, .inl (cJ, 124, .inr (.inl f_now))), (q_behind, .inl (cJ, 124, .inr (.inl u1))), (q_waysOf, .inl (cJ, 6, .inr (.inl f_waysOf)))]) ⟨hx, hb, hml, hown, hts⟩ (mX2_clear l D cI cJ cZ cR q_behind 124 f_behind  u1 hu) (va_cwS 1 hts gX2_goOn_X2_clear rfl rfl rfl (by decide +kernel) ⟨Nat.le_of_ble_eq_true rfl, Nat.le_of_ble_eq_true rfl⟩) hK hP hD hS hA rfl hl.1 rfl (Nat.le_of_ble_eq_true rfl) dX2_goOn_4 ⟨Nat.le_of_ble_eq_true rfl, Nat.le_of_ble_eq_true rfl⟩ [2] [0, 1, 3] rfl rfl rfl rfl rfl [0, 1, 3, 2] rfl (fun _ => rfl) (fun _ H locs hP hD hS => ?_)
  refine gg_st_v ?_
  refine lv_iconst (v := (0 : Int32)) hx hb dX2_goOn_7 (by decide) ?_
  refine lv_istore_n (lv' := [(2, .int (0 : Int32)), (0, .ref q), (1, .int x1)]) hx hb dX2_goOn_8 rfl hl (by decide) rfl (fun ls hl => ?_)
  obtain ⟨w24, hlp, hf⟩ := gg_c1_x hf
  obtain ⟨nlp, hlp⟩ := gg_lp_x hlp
  refine L9 _ _ _ _ (fun H locs ls hP hD hS hl => ?_) nlp _ _ hlp _ _ _ hP hD hS (lv_sub hl [1, 2, 0] rfl)
  refine lv_aload_n hx hb dX2_goOn_81 rfl (lv_at hl 0 rfl) ?_
  refine gg_get hx hb hts iX2 hown hK hP 0 rfl rfl 1 (by decide) k15 rfl rfl dX2_goOn_82 ?_
  refine lv_iconst (v := (0 : Int32)) hx hb dX2_goOn_85 (by decide) ?_
  refine lv_aload_n hx hb dX2_goOn_86 rfl (lv_at hl 0 rfl) ?_
  refine gg_get hx hb hts iX2 hown hK hP 0 rfl rfl 0 (by decide) k9 rfl rfl dX2_goOn_87 ?_
  refine lv_iconst (v := (0 : Int32)) hx hb dX2_goOn_90 (by decide) ?_
  refine lv_bipush (v := (124 : Int32)) hx hb dX2_goOn_91 (by decide) ?_
  obtain ⟨h1, h2, h3, h4, h5, hf⟩ := gg_cp_x hf
  refine va_copyl hx hb (hml.trans hl.1.symm) hown (hts (.methodLink RX2 70 arraycopyName) (List.mem_of_getElem? (i := 5) rfl)) (hts (.native arraycopyName) (List.mem_of_getElem? (i := 6) rfl)) (hts (.static arraycopyName) (List.mem_of_getElem? (i := 7) rfl)) (hts (.initialized "java/lang/System") (List.mem_of_getElem? (i := 8) rfl)) hK.1 hP hD hS 2 1 1 1 rfl rfl rfl rfl rfl h1 h2 h3 h4 h5 (fun _ _ => rfl) (Nat.le_of_ble_eq_true rfl) (Nat.le_of_ble_eq_true rfl) dX2_goOn_93 (fun H locs hP hD hS => ?_)
  generalize va_cpy _ _ _ _ _ = g25 at hf hP hD
  replace hP : va_P D vwCl [(q, .inr (2, [.ref q_now, .ref q_behind, .ref q_waysOf, .int f_members, .long f_allWays, .long f_doneWays])), (q_now, .inl (cJ, 124, .inr (.inl g25))), (q_behind, .inl (cJ, 124, .inr (.inl w24))), (q_waysOf, .inl (cJ, 6, .inr (.inl f_waysOf)))] H := hP
  replace hD : va_D A [(q, .inr (2, [.ref q_now, .ref q_behind, .ref q_waysOf, .int f_members, .long f_allWays, .long f_doneWays])), (q_now, .inl (cJ, 124, .inr (.inl g25))), (q_behind, .inl (cJ, 124, .inr (.inl w24))), (q_waysOf, .inl (cJ, 6, .inr (.inl f_waysOf)))] := hD
  refine lv_iconst (v := (0 : Int32)) hx hb dX2_goOn_96 (by decide) ?_
  refine lv_istore_n (lv' := [(2, .int (0 : Int32)), (0, .ref q)]) hx hb dX2_goOn_97 rfl hl (by decide) rfl (fun ls hl => ?_)
  obtain ⟨w33, hlp, hf⟩ := gg_c1_x hf
  obtain ⟨nlp, hlp⟩ := gg_lp_x hlp
  refine L98 _ _ _ (fun H locs ls hP hD hS hl => ?_) nlp _ _ hlp _ _ _ hP hD hS (lv_sub hl [1, 0] rfl)
  cases hf
  rw [hQ]
  exact gg_vret hx hb hr hlocks hS (Nat.le_of_ble_eq_true rfl) (Nat.le_of_ble_eq_true rfl) dX2_goOn_124 () rfl hP hD
set_option maxHeartbeats 4000000 in
set_option maxRecDepth 100000 in
theorem mX2_reckon (l : Launch) (D : va_G) (cI cJ cZ cR : ClassId) (q q_now q_behind q_waysOf q_p1 q_p1_needs q_p1_roomOf q_p1_tenthsOf q_p1_colourOf q_p1_grudgeOf q_p1_quarrelOf : Nat) (f_members : Int32) (f_allWays : Int64) (f_doneWays : Int64) (f_now : (Nat → Int64)) (f_behind : (Nat → Int64)) (f_waysOf : (Nat → Int64)) (f_p1_rooms : Int32) (f_p1_people : Int32) (f_p1_quarrels : Int32) (f_p1_needs : (Nat → Int32)) (f_p1_roomOf : (Nat → Int32)) (f_p1_tenthsOf : (Nat → Int32)) (x2 : Int32) (x3 : Int32) (x4 : Int32) (nf_members : Int32) (nf_allWays : Int64) (nf_doneWays : Int64) (nf_now : (Nat → Int64)) (nf_behind : (Nat → Int64)) (nf_waysOf : (Nat → Int64)) (hf : pX2_reckon f_members f_allWays f_doneWays f_now f_behind f_waysOf f_p1_people f_p1_needs f_p1_roomOf f_p1_tenthsOf x2 x3 x4 = some (nf_members, nf_allWays, nf_doneWays, nf_now, nf_behind, nf_waysOf)) : gg_M gN vwCl (gg_T cI cJ cZ cR) l D yX2_reckon wsX2_reckon ({ frames := 3, cells := 0, slots := 0, locals := 62 } : Room) [.ref q, .ref q_p1, .int x2, .int x3, .int x4] [(q, .inr (2, [.ref q_now, .ref q_behind, .ref q_waysOf, .int f_members, .long f_allWays, .long f_doneWays])), (q_now, .inl (cJ, 124, .inr (.inl f_now))), (q_behind, .inl (cJ, 124, .inr (.inl f_behind))), (q_waysOf, .inl (cJ, 6, .inr (.inl f_waysOf))), (q_p1, .inr (4, [.int f_p1_rooms, .int f_p1_people, .int f_p1_quarrels, .ref q_p1_needs, .ref q_p1_roomOf, .ref q_p1_colourOf, .ref q_p1_grudgeOf, .ref q_p1_tenthsOf, .ref q_p1_quarrelOf])), (q_p1_needs, .inl (cI, 3, .inl f_p1_needs)), (q_p1_roomOf, .inl (cI, 5, .inl f_p1_roomOf)), (q_p1_tenthsOf, .inl (cI, 5, .inl f_p1_tenthsOf))] (fun _ : Unit => none) (fun _ => [(q, .inr (2, [.ref q_now, .ref q_behind, .ref q_waysOf, .int nf_members, .long nf_allWays, .long nf_doneWays])), (q_now, .inl (cJ, 124, .inr (.inl nf_now))), (q_behind, .inl (cJ, 124, .inr (.inl nf_behind))), (q_waysOf, .inl (cJ, 6, .inr (.inl nf_waysOf))), (q_p1, .inr (4, [.int f_p1_rooms, .int f_p1_people, .int f_p1_quarrels, .ref q_p1_needs, .ref q_p1_roomOf, .ref q_p1_colourOf, .ref q_p1_grudgeOf, .ref q_p1_tenthsOf, .ref q_p1_quarrelOf])), (q_p1_needs, .inl (cI, 3, .inl f_p1_needs)), (q_p1_roomOf, .inl (cI, 5, .inl f_p1_roomOf)), (q_p1_tenthsOf, .inl (cI, 5, .inl f_p1_tenthsOf))]) := by
  refine gg_M.of (cc := cX2_reckon) (maxL := 7) (rt := none) (by decide) rfl (Nat.le_of_ble_eq_true rfl) ?_
  intro p e s m below meth c A args Q hQ hx hb hr hml hts hown hlocks hin hA hS hP hK hD ls hl
  replace hown : s.vm.findClass RX2 = some m.cls := hown
  replace hl : lv_has ls 7 [(0, .ref q), (1, .ref q_p1), (2, .int x2), (3, .int x3), (4, .int x4)] := hl
  have k32 := (hts (.fieldLink RX2 32 "AbsentCarpets$House" "needs" "[I") (List.mem_of_getElem? (i := 1) rfl))
  have k9 := (hts (.fieldLink RX2 9 "AbsentCarpets$Chances" "now" "[J") (List.mem_of_getElem? (i := 2) rfl))
  have k25 := (hts (.fieldLink RX2 25 "AbsentCarpets$Chances" "allWays" "J") (List.mem_of_getElem? (i := 3) rfl))
  have k29 := (hts (.fieldLink RX2 29 "AbsentCarpets$Chances" "doneWays" "J") (List.mem_of_getElem? (i := 4) rfl))
  have iX4 : ∀ w ∈ wsX40, w ∈ wsX2_reckon := fun _ h => List.mem_cons_of_mem _ (List.mem_append_left _ (List.mem_append_right _ (h)))
  have iX2 : ∀ w ∈ wsX20, w ∈ wsX2_reckon := fun _ h => List.mem_cons_of_mem _ (List.mem_append_right _ (h))
  have L37 : ∀ (w7 : Int32) (w8 : Int64) (w9 : (Nat → Int64)) (y10 : Int32) (y11 : Int32) (w16 : Int64) (w17 : (Nat → Int64)) (w18 : (Nat → Int64)), (∀ (H : Heap) (locs : List Loc) (ls : Array Slot), va_P D vwCl [(q, .inr (2, [.ref q_now, .ref q_behind, .ref q_waysOf, .int w7, .long w16, .long w8])), (q_now, .inl (cJ, 124, .inr (.inl w17))), (q_behind, .inl (cJ, 124, .inr (.inl w18))), (q_waysOf, .inl (cJ, 6, .inr (.inl w9))), (q_p1, .inr (4, [.int f_p1_rooms, .int f_p1_people, .int f_p1_quarrels, .ref q_p1_needs, .ref q_p1_roomOf, .ref q_p1_colourOf, .ref q_p1_grudgeOf, .ref q_p1_tenthsOf, .ref q_p1_quarrelOf])), (q_p1_needs, .inl (cI, 3, .inl f_p1_needs)), (q_p1_roomOf, .inl (cI, 5, .inl f_p1_roomOf)), (q_p1_tenthsOf, .inl (cI, 5, .inl f_p1_tenthsOf))] H → va_D A [(q, .inr (2, [.ref q_now, .ref q_behind, .ref q_waysOf, .int w7, .long w16, .long w8])), (q_now, .inl (cJ, 124, .inr (.inl w17))), (q_behind, .inl (cJ, 124, .inr (.inl w18))), (q_waysOf, .inl (cJ, 6, .inr (.inl w9))), (q_p1, .inr (4, [.int f_p1_rooms, .int f_p1_people, .int f_p1_quarrels, .ref q_p1_needs, .ref q_p1_roomOf, .ref q_p1_colourOf, .ref q_p1_grudgeOf, .ref q_p1_tenthsOf, .ref q_p1_quarrelOf])), (q_p1_needs, .inl (cI, 3, .inl f_p1_needs)), (q_p1_roomOf, .inl (cI, 5, .inl f_p1_roomOf)), (q_p1_tenthsOf, .inl (cI, 5, .inl f_p1_tenthsOf))] → va_S A s.heap H locs → lv_has ls 7 [(0, .ref q), (5, .int y11)] → W p l e ({ frames := 3, cells := 0, slots := 0, locals := 62 } : Room) s m args below meth c H locs 0 0 Q (F0 m 55 ls [])) → ∀ (nlp : Nat) (w12 : Int64) (w13 : (Nat → Int64)) (w14 : (Nat → Int64)) (y15 : Int32), gg_lpF (fun (s : (Int64 × (Nat → Int64) × (Nat → Int64) × Int32)) => pX2_reckon_L37 f_p1_people f_p1_needs f_p1_roomOf f_p1_tenthsOf w7 w8 w9 y10 y11 s.1 s.2.1 s.2.2.1 s.2.2.2) nlp (w12, w13, w14, y15) = some (w16, w17, w18) → ∀ (H : Heap) (locs : List Loc) (ls : Array Slot), va_P D vwCl [(q, .inr (2, [.ref q_now, .ref q_behind, .ref q_waysOf, .int w7, .long w12, .long w8])), (q_now, .inl (cJ, 124, .inr (.inl w13))), (q_behind, .inl (cJ, 124, .inr (.inl w14))), (q_waysOf, .inl (cJ, 6, .inr (.inl w9))), (q_p1, .inr (4, [.int f_p1_rooms, .int f_p1_people, .int f_p1_quarrels, .ref q_p1_needs, .ref q_p1_roomOf, .ref q_p1_colourOf, .ref q_p1_grudgeOf, .ref q_p1_tenthsOf, .ref q_p1_quarrelOf])), (q_p1_needs, .inl (cI, 3, .inl f_p1_needs)), (q_p1_roomOf, .inl (cI, 5, .inl f_p1_roomOf)), (q_p1_tenthsOf, .inl (cI, 5, .inl f_p1_tenthsOf))] H → va_D A [(q, .inr (2, [.ref q_now, .ref q_behind, .ref q_waysOf, .int w7, .long w12, .long w8])), (q_now, .inl (cJ, 124, .inr (.inl w13))), (q_behind, .inl (cJ, 124, .inr (.inl w14))), (q_waysOf, .inl (cJ, 6, .inr (.inl w9))), (q_p1, .inr (4, [.int f_p1_rooms, .int f_p1_people, .int f_p1_quarrels, .ref q_p1_needs, .ref q_p1_roomOf, .ref q_p1_colourOf, .ref q_p1_grudgeOf, .ref q_p1_tenthsOf, .ref q_p1_quarrelOf])), (q_p1_needs, .inl (cI, 3, .inl f_p1_needs)), (q_p1_roomOf, .inl (cI, 5, .inl f_p1_roomOf)), (q_p1_tenthsOf, .inl (cI, 5, .inl f_p1_tenthsOf))] → va_S A s.heap H locs → lv_has ls 7 [(0, .ref q), (3, .int y10), (5, .int y11), (6, .int y15)] → W p l e ({ frames := 3, cells := 0, slots := 0, locals := 62 } : Room) s m args below meth c H locs 0 0 Q (F0 m 37 ls []) := by
    intro w7 w8 w9 y10 y11 w16 w17 w18 hE nlp
    induction nlp with
    | zero => intro w12 w13 w14 y15 hf; cases hf
    | succ nlp ih =>
      intro w12 w13 w14 y15 hf H locs ls hP hD hS hl
      obtain ⟨zz, hz, hzE, hzN⟩ := gg_lpF_x hf
      replace hf : pX2_reckon_L37 f_p1_people f_p1_needs f_p1_roomOf f_p1_tenthsOf w7 w8 w9 y10 y11 w12 w13 w14 y15 = some zz := hz
      unfold pX2_reckon_L37 at hf
      refine lv_iload hx hb dX2_reckon_37 (lv_at hl 3 rfl) ?_
      refine lv_iload_n hx hb dX2_reckon_39 rfl (lv_at hl 1 rfl) ?_
      refine lv_icmp_ge (tgt := 55) hx hb dX2_reckon_40 (by decide) (fun hc => ?_) (fun hc => ?_)
      · replace hf := gg_pos hf hc
        have hq := hzE _ (Option.some.inj hf).symm
        cases hq
        exact hE _ _ _ hP hD hS (lv_sub hl [0, 2] rfl)
      · replace hf := gg_neg hf hc
        refine lv_aload_n hx hb dX2_reckon_43 rfl (lv_at hl 0 rfl) ?_
        refine lv_iload hx hb dX2_reckon_44 (lv_at hl 2 rfl) ?_
        obtain ⟨u19, u20, u21, hu, hf⟩ := gg_c3_x hf
        refine gg_callV (wr := [(q_p1, .inr (4, [.int f_p1_rooms, .int f_p1_people, .int f_p1_quarrels, .ref q_p1_needs, .ref q_p1_roomOf, .ref q_p1_colourOf, .ref q_p1_grudgeOf, .ref q_p1_tenthsOf, .ref q_p1_quarrelOf])), (q_p1_needs, .inl (cI, 3, .inl f_p1_needs)), (q_p1_roomOf, .inl (cI, 5, .inl f_p1_roomOf)), (q_p1_tenthsOf, .inl (cI, 5, .inl f_p1_tenthsOf))]) (w2 := fun _ => [(q, .inr (2, [.ref q_now, .ref q_behind, .ref q_waysOf, .int w7, .long u19, .long w8])), (q_now, .inl (cJ, 124, .inr (.inl u20))), (q_behind, .inl (cJ, 124, .inr (.inl u21))), (q_waysOf, .inl (cJ, 6, .inr (.inl w9))), (q_p1, .inr (4, [.int f_p1_rooms, .int f_p1_people, .int f_p1_quarrels, .ref q_p1_needs, .ref q_p1_roomOf, .ref q_p1_colourOf, .ref q_p1_grudgeOf, .ref q_p1_tenthsOf, .ref q_p1_quarrelOf])), (q_p1_needs, .inl (cI, 3, .inl f_p1_needs)), (q_p1_roomOf, .inl (cI, 5, .inl f_p1_roomOf)), (q_p1_tenthsOf, .inl (cI, 5, .inl f_p1_tenthsOf))]) ⟨hx, hb, hml, hown, hts⟩ (mX2_goOn l D cI cJ cZ cR q q_now q_behind q_waysOf w7 w12 w8 w13 w14 w9 _ u19 u20 u21 hu) (cwV 1 hts gX2_reckon_X2_goOn rfl rfl rfl (by decide +kernel) ⟨Nat.le_of_ble_eq_true rfl, Nat.le_of_ble_eq_true rfl⟩) hK hP hD hS hA 0 rfl rfl rfl rfl hl.1 rfl (Nat.le_of_ble_eq_true rfl) dX2_reckon_46 ⟨Nat.le_of_ble_eq_true rfl, Nat.le_of_ble_eq_true rfl⟩ [0, 1, 2, 3] [4, 5, 6, 7] rfl rfl rfl rfl rfl [4, 5, 6, 7, 0, 1, 2, 3] rfl (fun _ => rfl) (fun _ H locs hP hD hS => ?_)
        refine gg_st_v ?_
        refine gg_iinc (cst := (1 : Int32)) (k := 3) (lv' := fun v22 => [(6, .int v22), (0, .ref q), (3, .int y10), (5, .int y11)]) hx hb dX2_reckon_49 hl rfl (by decide) (by decide) (fun _ => rfl) hf (fun v22 ls hl hf => ?_)
        refine lv_goto (tgt := 37) hx hb dX2_reckon_52 (by decide) ?_
        exact ih _ _ _ _ (hzN _ (Option.some.inj hf).symm) _ _ _ hP hD hS (lv_sub hl [1, 2, 3, 0] rfl)
  have L63 : ∀ (w26 : Int32) (w27 : Int64) (w28 : (Nat → Int64)) (w29 : (Nat → Int64)) (w30 : (Nat → Int64)) (y31 : Int32) (w34 : Int64), (∀ (H : Heap) (locs : List Loc) (ls : Array Slot), va_P D vwCl [(q, .inr (2, [.ref q_now, .ref q_behind, .ref q_waysOf, .int w26, .long w27, .long w34])), (q_now, .inl (cJ, 124, .inr (.inl w28))), (q_behind, .inl (cJ, 124, .inr (.inl w29))), (q_waysOf, .inl (cJ, 6, .inr (.inl w30))), (q_p1, .inr (4, [.int f_p1_rooms, .int f_p1_people, .int f_p1_quarrels, .ref q_p1_needs, .ref q_p1_roomOf, .ref q_p1_colourOf, .ref q_p1_grudgeOf, .ref q_p1_tenthsOf, .ref q_p1_quarrelOf])), (q_p1_needs, .inl (cI, 3, .inl f_p1_needs)), (q_p1_roomOf, .inl (cI, 5, .inl f_p1_roomOf)), (q_p1_tenthsOf, .inl (cI, 5, .inl f_p1_tenthsOf))] H → va_D A [(q, .inr (2, [.ref q_now, .ref q_behind, .ref q_waysOf, .int w26, .long w27, .long w34])), (q_now, .inl (cJ, 124, .inr (.inl w28))), (q_behind, .inl (cJ, 124, .inr (.inl w29))), (q_waysOf, .inl (cJ, 6, .inr (.inl w30))), (q_p1, .inr (4, [.int f_p1_rooms, .int f_p1_people, .int f_p1_quarrels, .ref q_p1_needs, .ref q_p1_roomOf, .ref q_p1_colourOf, .ref q_p1_grudgeOf, .ref q_p1_tenthsOf, .ref q_p1_quarrelOf])), (q_p1_needs, .inl (cI, 3, .inl f_p1_needs)), (q_p1_roomOf, .inl (cI, 5, .inl f_p1_roomOf)), (q_p1_tenthsOf, .inl (cI, 5, .inl f_p1_tenthsOf))] → va_S A s.heap H locs → lv_has ls 7 [] → W p l e ({ frames := 3, cells := 0, slots := 0, locals := 62 } : Room) s m args below meth c H locs 0 0 Q (F0 m 96 ls [])) → ∀ (nlp : Nat) (w32 : Int64) (y33 : Int32), gg_lpF (fun (s : (Int64 × Int32)) => pX2_reckon_L63 f_p1_people f_p1_needs f_p1_roomOf f_p1_tenthsOf w26 w27 w28 w29 w30 y31 s.1 s.2) nlp (w32, y33) = some w34 → ∀ (H : Heap) (locs : List Loc) (ls : Array Slot), va_P D vwCl [(q, .inr (2, [.ref q_now, .ref q_behind, .ref q_waysOf, .int w26, .long w27, .long w32])), (q_now, .inl (cJ, 124, .inr (.inl w28))), (q_behind, .inl (cJ, 124, .inr (.inl w29))), (q_waysOf, .inl (cJ, 6, .inr (.inl w30))), (q_p1, .inr (4, [.int f_p1_rooms, .int f_p1_people, .int f_p1_quarrels, .ref q_p1_needs, .ref q_p1_roomOf, .ref q_p1_colourOf, .ref q_p1_grudgeOf, .ref q_p1_tenthsOf, .ref q_p1_quarrelOf])), (q_p1_needs, .inl (cI, 3, .inl f_p1_needs)), (q_p1_roomOf, .inl (cI, 5, .inl f_p1_roomOf)), (q_p1_tenthsOf, .inl (cI, 5, .inl f_p1_tenthsOf))] H → va_D A [(q, .inr (2, [.ref q_now, .ref q_behind, .ref q_waysOf, .int w26, .long w27, .long w32])), (q_now, .inl (cJ, 124, .inr (.inl w28))), (q_behind, .inl (cJ, 124, .inr (.inl w29))), (q_waysOf, .inl (cJ, 6, .inr (.inl w30))), (q_p1, .inr (4, [.int f_p1_rooms, .int f_p1_people, .int f_p1_quarrels, .ref q_p1_needs, .ref q_p1_roomOf, .ref q_p1_colourOf, .ref q_p1_grudgeOf, .ref q_p1_tenthsOf, .ref q_p1_quarrelOf])), (q_p1_needs, .inl (cI, 3, .inl f_p1_needs)), (q_p1_roomOf, .inl (cI, 5, .inl f_p1_roomOf)), (q_p1_tenthsOf, .inl (cI, 5, .inl f_p1_tenthsOf))] → va_S A s.heap H locs → lv_has ls 7 [(0, .ref q), (5, .int y31), (6, .int y33)] → W p l e ({ frames := 3, cells := 0, slots := 0, locals := 62 } : Room) s m args below meth c H locs 0 0 Q (F0 m 63 ls []) := by
    intro w26 w27 w28 w29 w30 y31 w34 hE nlp
    induction nlp with
    | zero => intro w32 y33 hf; cases hf
    | succ nlp ih =>
      intro w32 y33 hf H locs ls hP hD hS hl
      obtain ⟨zz, hz, hzE, hzN⟩ := gg_lpF_x hf
      replace hf : pX2_reckon_L63 f_p1_people f_p1_needs f_p1_roomOf f_p1_tenthsOf w26 w27 w28 w29 w30 y31 w32 y33 = some zz := hz
      unfold pX2_reckon_L63 at hf
      refine lv_iload hx hb dX2_reckon_63 (lv_at hl 2 rfl) ?_
      refine lv_iconst (v := (4 : Int32)) hx hb dX2_reckon_65 (by decide) ?_
      refine lv_icmp_ge (tgt := 96) hx hb dX2_reckon_66 (by decide) (fun hc => ?_) (fun hc => ?_)
      · replace hf := gg_pos hf hc
        have hq := hzE _ (Option.some.inj hf).symm
        cases hq
        exact hE _ _ _ hP hD hS (lv_sub hl [] rfl)
      · replace hf := gg_neg hf hc
        refine lv_aload_n hx hb dX2_reckon_69 rfl (lv_at hl 0 rfl) ?_
        refine lv_dup hx hb dX2_reckon_70 rfl ?_
        refine gg_get hx hb hts iX2 hown hK hP 0 rfl rfl 5 (by decide) k29 rfl rfl dX2_reckon_71 ?_
        refine lv_aload_n hx hb dX2_reckon_74 rfl (lv_at hl 0 rfl) ?_
        refine gg_get hx hb hts iX2 hown hK hP 0 rfl rfl 0 (by decide) k9 rfl rfl dX2_reckon_75 ?_
        refine lv_iload hx hb dX2_reckon_78 (lv_at hl 1 rfl) ?_
        refine lv_iconst (v := (4 : Int32)) hx hb dX2_reckon_80 (by decide) ?_
        refine lv_imul hx hb dX2_reckon_81 ?_
        refine lv_iload hx hb dX2_reckon_82 (lv_at hl 2 rfl) ?_
        refine lv_iadd hx hb dX2_reckon_84 ?_
        refine gg_lald hx hb hK hP 1 1 rfl rfl dX2_reckon_85 hf (fun hf => ?_)
        refine lv_ladd hx hb dX2_reckon_86 ?_
        refine gg_topl hf (fun v36 hf => ?_)
        refine gg_put (ws' := [(q, .inr (2, [.ref q_now, .ref q_behind, .ref q_waysOf, .int w26, .long w27, .long v36])), (q_now, .inl (cJ, 124, .inr (.inl w28))), (q_behind, .inl (cJ, 124, .inr (.inl w29))), (q_waysOf, .inl (cJ, 6, .inr (.inl w30))), (q_p1, .inr (4, [.int f_p1_rooms, .int f_p1_people, .int f_p1_quarrels, .ref q_p1_needs, .ref q_p1_roomOf, .ref q_p1_colourOf, .ref q_p1_grudgeOf, .ref q_p1_tenthsOf, .ref q_p1_quarrelOf])), (q_p1_needs, .inl (cI, 3, .inl f_p1_needs)), (q_p1_roomOf, .inl (cI, 5, .inl f_p1_roomOf)), (q_p1_tenthsOf, .inl (cI, 5, .inl f_p1_tenthsOf))]) hx hb hts iX2 tyX2_ok nmX2 hown hK hP hD hS 0 rfl rfl 5 (by decide) k29 rfl rfl rfl rfl rfl (Nat.le_of_ble_eq_true rfl) dX2_reckon_87 rfl (fun H locs hP hD hS => ?_)
        refine gg_iinc (cst := (1 : Int32)) (k := 2) (lv' := fun v37 => [(6, .int v37), (0, .ref q), (5, .int y31)]) hx hb dX2_reckon_90 hl rfl (by decide) (by decide) (fun _ => rfl) hf (fun v37 ls hl hf => ?_)
        refine lv_goto (tgt := 63) hx hb dX2_reckon_93 (by decide) ?_
        exact ih _ _ (hzN _ (Option.some.inj hf).symm) _ _ _ hP hD hS (lv_sub hl [1, 2, 0] rfl)
  unfold pX2_reckon at hf
  refine lv_aload_n hx hb dX2_reckon_0 rfl (lv_at hl 1 rfl) ?_
  refine gg_get hx hb hts iX4 hown hK hP 4 rfl rfl 3 (by decide) k32 rfl rfl dX2_reckon_1 ?_
  refine lv_iload_n hx hb dX2_reckon_4 rfl (lv_at hl 2 rfl) ?_
  refine gg_iald hx hb hK hP 5 0 rfl rfl dX2_reckon_5 hf (fun hf => ?_)
  refine gg_topi hf (fun v2 hf => ?_)
  refine lv_istore (lv' := [(5, .int v2), (0, .ref q), (1, .ref q_p1), (2, .int x2), (3, .int x3), (4, .int x4)]) hx hb dX2_reckon_6 hl (by decide) rfl (fun ls hl => ?_)
  refine lv_aload_n hx hb dX2_reckon_8 rfl (lv_at hl 1 rfl) ?_
  refine lv_aload_n hx hb dX2_reckon_9 rfl (lv_at hl 2 rfl) ?_
  refine lv_iload_n hx hb dX2_reckon_10 rfl (lv_at hl 3 rfl) ?_
  obtain ⟨u3, u4, hu, hf⟩ := gg_c2_x hf
  refine gg_callV (wr := [(q_now, .inl (cJ, 124, .inr (.inl f_now))), (q_behind, .inl (cJ, 124, .inr (.inl f_behind))), (q_p1_needs, .inl (cI, 3, .inl f_p1_needs))]) (w2 := fun _ => [(q, .inr (2, [.ref q_now, .ref q_behind, .ref q_waysOf, .int u3, .long f_allWays, .long f_doneWays])), (q_now, .inl (cJ, 124, .inr (.inl f_now))), (q_behind, .inl (cJ, 124, .inr (.inl f_behind))), (q_waysOf, .inl (cJ, 6, .inr (.inl u4))), (q_p1, .inr (4, [.int f_p1_rooms, .int f_p1_people, .int f_p1_quarrels, .ref q_p1_needs, .ref q_p1_roomOf, .ref q_p1_colourOf, .ref q_p1_grudgeOf, .ref q_p1_tenthsOf, .ref q_p1_quarrelOf])), (q_p1_needs, .inl (cI, 3, .inl f_p1_needs)), (q_p1_roomOf, .inl (cI, 5, .inl f_p1_roomOf)), (q_p1_tenthsOf, .inl (cI, 5, .inl f_p1_tenthsOf))]) ⟨hx, hb, hml, hown, hts⟩ (mX2_spread l D cI cJ cZ cR q q_waysOf q_p1 q_p1_roomOf q_p1_tenthsOf q_now q_behind q_p1_needs q_p1_colourOf q_p1_grudgeOf q_p1_quarrelOf f_members f_allWays f_doneWays f_waysOf f_p1_rooms f_p1_people f_p1_quarrels f_p1_roomOf f_p1_tenthsOf _ u3 u4 hu) (cwV 2 hts gX2_reckon_X2_spread rfl rfl rfl (by decide +kernel) ⟨Nat.le_of_ble_eq_true rfl, Nat.le_of_ble_eq_true rfl⟩) hK hP hD hS hA 0 rfl rfl rfl rfl hl.1 rfl (Nat.le_of_ble_eq_true rfl) dX2_reckon_11 ⟨Nat.le_of_ble_eq_true rfl, Nat.le_of_ble_eq_true rfl⟩ [0, 3, 4, 6, 7] [1, 2, 5] rfl rfl rfl rfl rfl [3, 0, 1, 4, 5, 2, 6, 7] rfl (fun _ => rfl) (fun _ H locs hP hD hS => ?_)
  refine gg_st_v ?_
  refine lv_aload_n hx hb dX2_reckon_14 rfl (lv_at hl 1 rfl) ?_
  refine gg_get hx hb hts iX2 hown hK hP 0 rfl rfl 0 (by decide) k9 rfl rfl dX2_reckon_15 ?_
  obtain ⟨u5, hu, hf⟩ := gg_c1_x hf
  refine gg_callS (wr := [(q, .inr (2, [.ref q_now, .ref q_behind, .ref q_waysOf, .int u3, .long f_allWays, .long f_doneWays])), (q_behind, .inl (cJ, 124, .inr (.inl f_behind))), (q_waysOf, .inl (cJ, 6, .inr (.inl u4))), (q_p1, .inr (4, [.int f_p1_rooms, .int f_p1_people, .int f_p1_quarrels, .ref q_p1_needs, .ref q_p1_roomOf, .ref q_p1_colourOf, .ref q_p1_grudgeOf, .ref q_p1_tenthsOf, .ref q_p1_quarrelOf])), (q_p1_needs, .inl (cI, 3, .inl f_p1_needs)), (q_p1_roomOf, .inl (cI, 5, .inl f_p1_roomOf)), (q_p1_tenthsOf, .inl (cI, 5, .inl f_p1_tenthsOf))]) (w2 := fun _ => [(q, .inr (2, [.ref q_now, .ref q_behind, .ref q_waysOf, .int u3, .long f_allWays, .long f_doneWays])), (q_now, .inl (cJ, 124, .inr (.inl u5))), (q_behind, .inl (cJ, 124, .inr (.inl f_behind))), (q_waysOf, .inl (cJ, 6, .inr (.inl u4))), (q_p1, .inr (4, [.int f_p1_rooms, .int f_p1_people, .int f_p1_quarrels, .ref q_p1_needs, .ref q_p1_roomOf, .ref q_p1_colourOf, .ref q_p1_grudgeOf, .ref q_p1_tenthsOf, .ref q_p1_quarrelOf])), (q_p1_needs, .inl (cI, 3, .inl f_p1_needs)), (q_p1_roomOf, .inl (cI, 5, .inl f_p1_roomOf)), (q_p1_tenthsOf, .inl (cI, 5, .inl f_p1_tenthsOf))]) ⟨hx, hb, hml, hown, hts⟩ (mX2_clear l D cI cJ cZ cR q_now 124 f_now  u5 hu) (va_cwS 1 hts gX2_reckon_X2_clear rfl rfl rfl (by decide +kernel) ⟨Nat.le_of_ble_eq_true rfl, Nat.le_of_ble_eq_true rfl⟩) hK hP hD hS hA rfl hl.1 rfl (Nat.le_of_ble_eq_true rfl) dX2_reckon_18 ⟨Nat.le_of_ble_eq_true rfl, Nat.le_of_ble_eq_true rfl⟩ [1] [0, 2, 3, 4, 5, 6, 7] rfl rfl rfl rfl rfl [0, 7, 1, 2, 3, 4, 5, 6] rfl (fun _ => rfl) (fun _ H locs hP hD hS => ?_)
  refine gg_st_v ?_
  refine lv_aload_n hx hb dX2_reckon_21 rfl (lv_at hl 1 rfl) ?_
  refine gg_get hx hb hts iX2 hown hK hP 0 rfl rfl 0 (by decide) k9 rfl rfl dX2_reckon_22 ?_
  refine lv_iload hx hb dX2_reckon_25 (lv_at hl 5 rfl) ?_
  refine lv_lconst (v := (1 : Int64)) hx hb dX2_reckon_27 (by decide) ?_
  refine gg_last (ws' := fun g6 => [(q, .inr (2, [.ref q_now, .ref q_behind, .ref q_waysOf, .int u3, .long f_allWays, .long f_doneWays])), (q_now, .inl (cJ, 124, .inr (.inl g6))), (q_behind, .inl (cJ, 124, .inr (.inl f_behind))), (q_waysOf, .inl (cJ, 6, .inr (.inl u4))), (q_p1, .inr (4, [.int f_p1_rooms, .int f_p1_people, .int f_p1_quarrels, .ref q_p1_needs, .ref q_p1_roomOf, .ref q_p1_colourOf, .ref q_p1_grudgeOf, .ref q_p1_tenthsOf, .ref q_p1_quarrelOf])), (q_p1_needs, .inl (cI, 3, .inl f_p1_needs)), (q_p1_roomOf, .inl (cI, 5, .inl f_p1_roomOf)), (q_p1_tenthsOf, .inl (cI, 5, .inl f_p1_tenthsOf))]) hx hb hK hP hD hS 1 1 rfl rfl dX2_reckon_28 (fun _ => rfl) hf (fun g6 H locs hP hD hS hf => ?_)
  refine lv_aload_n hx hb dX2_reckon_29 rfl (lv_at hl 1 rfl) ?_
  refine lv_lconst (v := (1 : Int64)) hx hb dX2_reckon_30 (by decide) ?_
  refine gg_put (ws' := [(q, .inr (2, [.ref q_now, .ref q_behind, .ref q_waysOf, .int u3, .long (1 : Int64), .long f_doneWays])), (q_now, .inl (cJ, 124, .inr (.inl g6))), (q_behind, .inl (cJ, 124, .inr (.inl f_behind))), (q_waysOf, .inl (cJ, 6, .inr (.inl u4))), (q_p1, .inr (4, [.int f_p1_rooms, .int f_p1_people, .int f_p1_quarrels, .ref q_p1_needs, .ref q_p1_roomOf, .ref q_p1_colourOf, .ref q_p1_grudgeOf, .ref q_p1_tenthsOf, .ref q_p1_quarrelOf])), (q_p1_needs, .inl (cI, 3, .inl f_p1_needs)), (q_p1_roomOf, .inl (cI, 5, .inl f_p1_roomOf)), (q_p1_tenthsOf, .inl (cI, 5, .inl f_p1_tenthsOf))]) hx hb hts iX2 tyX2_ok nmX2 hown hK hP hD hS 0 rfl rfl 4 (by decide) k25 rfl rfl rfl rfl rfl (Nat.le_of_ble_eq_true rfl) dX2_reckon_31 rfl (fun H locs hP hD hS => ?_)
  refine lv_iconst (v := (0 : Int32)) hx hb dX2_reckon_34 (by decide) ?_
  refine lv_istore (lv' := [(6, .int (0 : Int32)), (5, .int v2), (0, .ref q), (1, .ref q_p1), (2, .int x2), (3, .int x3), (4, .int x4)]) hx hb dX2_reckon_35 hl (by decide) rfl (fun ls hl => ?_)
  obtain ⟨w23, w24, w25, hlp, hf⟩ := gg_c3_x hf
  obtain ⟨nlp, hlp⟩ := gg_lp_x hlp
  refine L37 _ _ _ _ _ _ _ _ (fun H locs ls hP hD hS hl => ?_) nlp _ _ _ _ hlp _ _ _ hP hD hS (lv_sub hl [2, 5, 1, 0] rfl)
  refine lv_aload_n hx hb dX2_reckon_55 rfl (lv_at hl 0 rfl) ?_
  refine lv_lconst (v := (0 : Int64)) hx hb dX2_reckon_56 (by decide) ?_
  refine gg_put (ws' := [(q, .inr (2, [.ref q_now, .ref q_behind, .ref q_waysOf, .int u3, .long w23, .long (0 : Int64)])), (q_now, .inl (cJ, 124, .inr (.inl w24))), (q_behind, .inl (cJ, 124, .inr (.inl w25))), (q_waysOf, .inl (cJ, 6, .inr (.inl u4))), (q_p1, .inr (4, [.int f_p1_rooms, .int f_p1_people, .int f_p1_quarrels, .ref q_p1_needs, .ref q_p1_roomOf, .ref q_p1_colourOf, .ref q_p1_grudgeOf, .ref q_p1_tenthsOf, .ref q_p1_quarrelOf])), (q_p1_needs, .inl (cI, 3, .inl f_p1_needs)), (q_p1_roomOf, .inl (cI, 5, .inl f_p1_roomOf)), (q_p1_tenthsOf, .inl (cI, 5, .inl f_p1_tenthsOf))]) hx hb hts iX2 tyX2_ok nmX2 hown hK hP hD hS 0 rfl rfl 5 (by decide) k29 rfl rfl rfl rfl rfl (Nat.le_of_ble_eq_true rfl) dX2_reckon_57 rfl (fun H locs hP hD hS => ?_)
  refine lv_iconst (v := (0 : Int32)) hx hb dX2_reckon_60 (by decide) ?_
  refine lv_istore (lv' := [(6, .int (0 : Int32)), (0, .ref q), (5, .int v2)]) hx hb dX2_reckon_61 hl (by decide) rfl (fun ls hl => ?_)
  obtain ⟨w38, hlp, hf⟩ := gg_c1_x hf
  obtain ⟨nlp, hlp⟩ := gg_lp_x hlp
  refine L63 _ _ _ _ _ _ _ (fun H locs ls hP hD hS hl => ?_) nlp _ _ hlp _ _ _ hP hD hS (lv_sub hl [1, 2, 0] rfl)
  cases hf
  rw [hQ]
  exact gg_vret hx hb hr hlocks hS (Nat.le_of_ble_eq_true rfl) (Nat.le_of_ble_eq_true rfl) dX2_reckon_96 () rfl hP hD
set_option maxHeartbeats 4000000 in
set_option maxRecDepth 100000 in
theorem mX2_commonDivisor (l : Launch) (D : va_G) (cI cJ cZ cR : ClassId) (q q_now q_behind q_waysOf : Nat) (f_members : Int32) (f_allWays : Int64) (f_doneWays : Int64) (rr : Int64) (hf : pX2_commonDivisor f_allWays f_doneWays = some rr) : gg_M gN vwCl (gg_T cI cJ cZ cR) l D yX2_commonDivisor wsX2_commonDivisor ({ frames := 1, cells := 0, slots := 0, locals := 15 } : Room) [.ref q] [(q, .inr (2, [.ref q_now, .ref q_behind, .ref q_waysOf, .int f_members, .long f_allWays, .long f_doneWays]))] (fun _ : Unit => some (.long rr)) (fun _ => [(q, .inr (2, [.ref q_now, .ref q_behind, .ref q_waysOf, .int f_members, .long f_allWays, .long f_doneWays]))]) := by
  refine gg_M.of (cc := cX2_commonDivisor) (maxL := 8) (rt := (some .long)) (by decide) rfl (Nat.le_of_ble_eq_true rfl) ?_
  intro p e s m below meth c A args Q hQ hx hb hr hml hts hown hlocks hin hA hS hP hK hD ls hl
  replace hown : s.vm.findClass RX2 = some m.cls := hown
  replace hl : lv_has ls 8 [(0, .ref q)] := hl
  have k25 := (hts (.fieldLink RX2 25 "AbsentCarpets$Chances" "allWays" "J") (List.mem_of_getElem? (i := 1) rfl))
  have k29 := (hts (.fieldLink RX2 29 "AbsentCarpets$Chances" "doneWays" "J") (List.mem_of_getElem? (i := 2) rfl))
  have iX2 : ∀ w ∈ wsX20, w ∈ wsX2_commonDivisor := fun _ h => List.mem_cons_of_mem _ (List.mem_append_right _ (h))
  have L13 : ∀ (y4 : Int64), (∀ (H : Heap) (locs : List Loc) (ls : Array Slot), va_P D vwCl [(q, .inr (2, [.ref q_now, .ref q_behind, .ref q_waysOf, .int f_members, .long f_allWays, .long f_doneWays]))] H → va_D A [(q, .inr (2, [.ref q_now, .ref q_behind, .ref q_waysOf, .int f_members, .long f_allWays, .long f_doneWays]))] → va_S A s.heap H locs → lv_has ls 8 [(1, .long y4)] → W p l e ({ frames := 1, cells := 0, slots := 0, locals := 15 } : Room) s m args below meth c H locs 0 0 Q (F0 m 43 ls [])) → ∀ (nlp : Nat) (y1 : Int64) (y2 : Int64) (y3 : Int32), gg_lpF (fun (s : (Int64 × Int64 × Int32)) => pX2_commonDivisor_L13 f_allWays f_doneWays s.1 s.2.1 s.2.2) nlp (y1, y2, y3) = some y4 → ∀ (H : Heap) (locs : List Loc) (ls : Array Slot), va_P D vwCl [(q, .inr (2, [.ref q_now, .ref q_behind, .ref q_waysOf, .int f_members, .long f_allWays, .long f_doneWays]))] H → va_D A [(q, .inr (2, [.ref q_now, .ref q_behind, .ref q_waysOf, .int f_members, .long f_allWays, .long f_doneWays]))] → va_S A s.heap H locs → lv_has ls 8 [(1, .long y1), (3, .long y2), (5, .int y3)] → W p l e ({ frames := 1, cells := 0, slots := 0, locals := 15 } : Room) s m args below meth c H locs 0 0 Q (F0 m 13 ls []) := by
    intro y4 hE nlp
    induction nlp with
    | zero => intro y1 y2 y3 hf; cases hf
    | succ nlp ih =>
      intro y1 y2 y3 hf H locs ls hP hD hS hl
      obtain ⟨zz, hz, hzE, hzN⟩ := gg_lpF_x hf
      replace hf : pX2_commonDivisor_L13 f_allWays f_doneWays  y1 y2 y3 = some zz := hz
      unfold pX2_commonDivisor_L13 at hf
      refine lv_iload hx hb dX2_commonDivisor_13 (lv_at hl 2 rfl) ?_
      refine lv_sipush (v := (200 : Int32)) hx hb dX2_commonDivisor_15 (by decide) ?_
      refine lv_icmp_ge (tgt := 43) hx hb dX2_commonDivisor_18 (by decide) (fun hc => ?_) (fun hc => ?_)
      · replace hf := gg_pos hf hc
        have hq := hzE _ (Option.some.inj hf).symm
        cases hq
        exact hE _ _ _ hP hD hS (lv_sub hl [0] rfl)
      · replace hf := gg_neg hf hc
        refine lv_lload_n hx hb dX2_commonDivisor_21 rfl (lv_at hl 1 rfl) ?_
        refine lv_lconst (v := (0 : Int64)) hx hb dX2_commonDivisor_22 (by decide) ?_
        refine W.lcmp hx hb dX2_commonDivisor_23 ?_
        refine lv_if_eq (tgt := 43) hx hb dX2_commonDivisor_24 (by decide) (fun hc => ?_) (fun hc => ?_)
        · replace hf := gg_pos hf hc
          have hq := hzE _ (Option.some.inj hf).symm
          cases hq
          exact hE _ _ _ hP hD hS (lv_sub hl [0] rfl)
        · replace hf := gg_neg hf hc
          refine lv_lload_n hx hb dX2_commonDivisor_27 rfl (lv_at hl 0 rfl) ?_
          refine lv_lload_n hx hb dX2_commonDivisor_28 rfl (lv_at hl 1 rfl) ?_
          obtain ⟨hnz, hf⟩ := gg_nz_x hf
          refine lv_lrem hx hb dX2_commonDivisor_29 hnz ?_
          refine gg_topl hf (fun v5 hf => ?_)
          refine lv_lstore (lv' := [(6, .long v5), (1, .long y1), (3, .long y2), (5, .int y3)]) hx hb dX2_commonDivisor_30 hl (by decide) rfl (fun ls hl => ?_)
          refine lv_lload_n hx hb dX2_commonDivisor_32 rfl (lv_at hl 2 rfl) ?_
          refine lv_lstore_n (lv' := [(1, .long y2), (6, .long v5), (3, .long y2), (5, .int y3)]) hx hb dX2_commonDivisor_33 rfl hl (by decide) rfl (fun ls hl => ?_)
          refine lv_lload hx hb dX2_commonDivisor_34 (lv_at hl 1 rfl) ?_
          refine lv_lstore_n (lv' := [(3, .long v5), (1, .long y2), (6, .long v5), (5, .int y3)]) hx hb dX2_commonDivisor_36 rfl hl (by decide) rfl (fun ls hl => ?_)
          refine gg_iinc (cst := (1 : Int32)) (k := 3) (lv' := fun v6 => [(5, .int v6), (3, .long v5), (1, .long y2), (6, .long v5)]) hx hb dX2_commonDivisor_37 hl rfl (by decide) (by decide) (fun _ => rfl) hf (fun v6 ls hl hf => ?_)
          refine lv_goto (tgt := 13) hx hb dX2_commonDivisor_40 (by decide) ?_
          exact ih _ _ _ (hzN _ (Option.some.inj hf).symm) _ _ _ hP hD hS (lv_sub hl [2, 1, 0] rfl)
  have J43 : ∀ (y8 : Int64) (H : Heap) (locs : List Loc) (ls : Array Slot), pX2_commonDivisor_j43 f_allWays f_doneWays y8 = some rr → va_P D vwCl [(q, .inr (2, [.ref q_now, .ref q_behind, .ref q_waysOf, .int f_members, .long f_allWays, .long f_doneWays]))] H → va_D A [(q, .inr (2, [.ref q_now, .ref q_behind, .ref q_waysOf, .int f_members, .long f_allWays, .long f_doneWays]))] → va_S A s.heap H locs → lv_has ls 8 [(1, .long y8)] → W p l e ({ frames := 1, cells := 0, slots := 0, locals := 15 } : Room) s m args below meth c H locs 0 0 Q (F0 m 43 ls []) := by
    intro y8 H locs ls hf hP hD hS hl
    unfold pX2_commonDivisor_j43 at hf
    refine lv_lconst (v := (1 : Int64)) hx hb dX2_commonDivisor_43 (by decide) ?_
    refine lv_lload_n hx hb dX2_commonDivisor_44 rfl (lv_at hl 0 rfl) ?_
    refine va_mmax_long hx hb (hml.trans hl.1.symm) hown (hts (.methodLink RX2 78 Lib.MathLoose.max_long.x) (List.mem_of_getElem? (i := 3) rfl)) (hts (.static Lib.MathLoose.max_long.x) (List.mem_of_getElem? (i := 4) rfl)) (hts (.initialized "java/lang/Math") (List.mem_of_getElem? (i := 5) rfl)) (hts (.code Lib.MathLoose.max_long.x Lib.MathLoose.max_long.code 4 (some .long)) (List.mem_of_getElem? (i := 6) rfl)) (Nat.le_of_ble_eq_true rfl) (Nat.le_of_ble_eq_true rfl) (Nat.zero_le _) (Nat.zero_le _) dX2_commonDivisor_45 ?_
    cases hf
    rw [hQ]
    exact gg_lret hx hb hr hlocks hS (Nat.le_of_ble_eq_true rfl) (Nat.le_of_ble_eq_true rfl) dX2_commonDivisor_48 () rfl hP hD
  unfold pX2_commonDivisor at hf
  refine lv_aload_n hx hb dX2_commonDivisor_0 rfl (lv_at hl 0 rfl) ?_
  refine gg_get hx hb hts iX2 hown hK hP 0 rfl rfl 4 (by decide) k25 rfl rfl dX2_commonDivisor_1 ?_
  refine lv_lstore_n (lv' := [(1, .long f_allWays), (0, .ref q)]) hx hb dX2_commonDivisor_4 rfl hl (by decide) rfl (fun ls hl => ?_)
  refine lv_aload_n hx hb dX2_commonDivisor_5 rfl (lv_at hl 1 rfl) ?_
  refine gg_get hx hb hts iX2 hown hK hP 0 rfl rfl 5 (by decide) k29 rfl rfl dX2_commonDivisor_6 ?_
  refine lv_lstore_n (lv' := [(3, .long f_doneWays), (1, .long f_allWays), (0, .ref q)]) hx hb dX2_commonDivisor_9 rfl hl (by decide) rfl (fun ls hl => ?_)
  refine lv_iconst (v := (0 : Int32)) hx hb dX2_commonDivisor_10 (by decide) ?_
  refine lv_istore (lv' := [(5, .int (0 : Int32)), (3, .long f_doneWays), (1, .long f_allWays), (0, .ref q)]) hx hb dX2_commonDivisor_11 hl (by decide) rfl (fun ls hl => ?_)
  obtain ⟨y7, hlp, hf⟩ := gg_c1_x hf
  obtain ⟨nlp, hlp⟩ := gg_lp_x hlp
  refine L13  _ (fun H locs ls hP hD hS hl => ?_) nlp _ _ _ hlp _ _ _ hP hD hS (lv_sub hl [2, 1, 0] rfl)
  exact J43 _ _ _ _ hf hP hD hS (lv_sub hl [0] rfl)
set_option maxHeartbeats 4000000 in
set_option maxRecDepth 100000 in
theorem mX2_above (l : Launch) (D : va_G) (cI cJ cZ cR : ClassId) (q q_now q_behind q_waysOf : Nat) (f_members : Int32) (f_allWays : Int64) (f_doneWays : Int64) (rr : Int64) (hf : pX2_above f_allWays f_doneWays = some rr) : gg_M gN vwCl (gg_T cI cJ cZ cR) l D yX2_above wsX2_above ({ frames := 2, cells := 0, slots := 0, locals := 42 } : Room) [.ref q] [(q, .inr (2, [.ref q_now, .ref q_behind, .ref q_waysOf, .int f_members, .long f_allWays, .long f_doneWays]))] (fun _ : Unit => some (.long rr)) (fun _ => [(q, .inr (2, [.ref q_now, .ref q_behind, .ref q_waysOf, .int f_members, .long f_allWays, .long f_doneWays]))]) := by
  refine gg_M.of (cc := cX2_above) (maxL := 1) (rt := (some .long)) (by decide) rfl (Nat.le_of_ble_eq_true rfl) ?_
  intro p e s m below meth c A args Q hQ hx hb hr hml hts hown hlocks hin hA hS hP hK hD ls hl
  replace hown : s.vm.findClass RX2 = some m.cls := hown
  replace hl : lv_has ls 1 [(0, .ref q)] := hl
  have k29 := (hts (.fieldLink RX2 29 "AbsentCarpets$Chances" "doneWays" "J") (List.mem_of_getElem? (i := 1) rfl))
  have iX2 : ∀ w ∈ wsX20, w ∈ wsX2_above := fun _ h => List.mem_cons_of_mem _ (List.mem_append_right _ (h))
  unfold pX2_above at hf
  refine lv_aload_n hx hb dX2_above_0 rfl (lv_at hl 0 rfl) ?_
  refine gg_get hx hb hts iX2 hown hK hP 0 rfl rfl 5 (by decide) k29 rfl rfl dX2_above_1 ?_
  refine lv_aload_n hx hb dX2_above_4 rfl (lv_at hl 0 rfl) ?_
  obtain ⟨r1, hu, hf⟩ := gg_c1_x hf
  refine gg_callV (wr := []) (w2 := fun _ => [(q, .inr (2, [.ref q_now, .ref q_behind, .ref q_waysOf, .int f_members, .long f_allWays, .long f_doneWays]))]) ⟨hx, hb, hml, hown, hts⟩ (mX2_commonDivisor l D cI cJ cZ cR q q_now q_behind q_waysOf f_members f_allWays f_doneWays  r1 hu) (cwV 0 hts gX2_above_X2_commonDivisor rfl rfl rfl (by decide +kernel) ⟨Nat.le_of_ble_eq_true rfl, Nat.le_of_ble_eq_true rfl⟩) hK hP hD hS hA 0 rfl rfl rfl rfl hl.1 rfl (Nat.le_of_ble_eq_true rfl) dX2_above_5 ⟨Nat.le_of_ble_eq_true rfl, Nat.le_of_ble_eq_true rfl⟩ [0] [] rfl rfl rfl rfl rfl [0] rfl (fun _ => rfl) (fun _ H locs hP hD hS => ?_)
  refine gg_st_l ?_
  obtain ⟨hnz, hf⟩ := gg_nz_x hf
  refine lv_ldiv hx hb dX2_above_8 hnz ?_
  cases hf
  rw [hQ]
  exact gg_lret hx hb hr hlocks hS (Nat.le_of_ble_eq_true rfl) (Nat.le_of_ble_eq_true rfl) dX2_above_9 () rfl hP hD
set_option maxHeartbeats 4000000 in
set_option maxRecDepth 100000 in
theorem mX2_below (l : Launch) (D : va_G) (cI cJ cZ cR : ClassId) (q q_now q_behind q_waysOf : Nat) (f_members : Int32) (f_allWays : Int64) (f_doneWays : Int64) (rr : Int64) (hf : pX2_below f_allWays f_doneWays = some rr) : gg_M gN vwCl (gg_T cI cJ cZ cR) l D yX2_below wsX2_below ({ frames := 2, cells := 0, slots := 0, locals := 42 } : Room) [.ref q] [(q, .inr (2, [.ref q_now, .ref q_behind, .ref q_waysOf, .int f_members, .long f_allWays, .long f_doneWays]))] (fun _ : Unit => some (.long rr)) (fun _ => [(q, .inr (2, [.ref q_now, .ref q_behind, .ref q_waysOf, .int f_members, .long f_allWays, .long f_doneWays]))]) := by
  refine gg_M.of (cc := cX2_below) (maxL := 1) (rt := (some .long)) (by decide) rfl (Nat.le_of_ble_eq_true rfl) ?_
  intro p e s m below meth c A args Q hQ hx hb hr hml hts hown hlocks hin hA hS hP hK hD ls hl
  replace hown : s.vm.findClass RX2 = some m.cls := hown
  replace hl : lv_has ls 1 [(0, .ref q)] := hl
  have k25 := (hts (.fieldLink RX2 25 "AbsentCarpets$Chances" "allWays" "J") (List.mem_of_getElem? (i := 1) rfl))
  have iX2 : ∀ w ∈ wsX20, w ∈ wsX2_below := fun _ h => List.mem_cons_of_mem _ (List.mem_append_right _ (h))
  unfold pX2_below at hf
  refine lv_aload_n hx hb dX2_below_0 rfl (lv_at hl 0 rfl) ?_
  refine gg_get hx hb hts iX2 hown hK hP 0 rfl rfl 4 (by decide) k25 rfl rfl dX2_below_1 ?_
  refine lv_aload_n hx hb dX2_below_4 rfl (lv_at hl 0 rfl) ?_
  obtain ⟨r1, hu, hf⟩ := gg_c1_x hf
  refine gg_callV (wr := []) (w2 := fun _ => [(q, .inr (2, [.ref q_now, .ref q_behind, .ref q_waysOf, .int f_members, .long f_allWays, .long f_doneWays]))]) ⟨hx, hb, hml, hown, hts⟩ (mX2_commonDivisor l D cI cJ cZ cR q q_now q_behind q_waysOf f_members f_allWays f_doneWays  r1 hu) (cwV 0 hts gX2_below_X2_commonDivisor rfl rfl rfl (by decide +kernel) ⟨Nat.le_of_ble_eq_true rfl, Nat.le_of_ble_eq_true rfl⟩) hK hP hD hS hA 0 rfl rfl rfl rfl hl.1 rfl (Nat.le_of_ble_eq_true rfl) dX2_below_5 ⟨Nat.le_of_ble_eq_true rfl, Nat.le_of_ble_eq_true rfl⟩ [0] [] rfl rfl rfl rfl rfl [0] rfl (fun _ => rfl) (fun _ H locs hP hD hS => ?_)
  refine gg_st_l ?_
  obtain ⟨hnz, hf⟩ := gg_nz_x hf
  refine lv_ldiv hx hb dX2_below_8 hnz ?_
  cases hf
  rw [hQ]
  exact gg_lret hx hb hr hlocks hS (Nat.le_of_ble_eq_true rfl) (Nat.le_of_ble_eq_true rfl) dX2_below_9 () rfl hP hD
