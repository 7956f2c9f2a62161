set_option maxHeartbeats 4000000 in
set_option maxRecDepth 100000 in
theorem mX5_setOfDinner (l : Launch) (D : va_G) (cI cJ cZ cR : ClassId) (q q_least q_least_0 q_least_1 q_least_2 q_least_3 q_least_4 q_least_5 q_least_6 q_troubleOf q_setOf : Nat) (f_needs : Int32) (f_members : Int32) (f_least : (Nat → Nat → Int32)) (f_troubleOf : (Nat → Int32)) (f_setOf : (Nat → Int32)) (x1 : Int32) (x2 : Int32) (x3 : Int32) (rr : Int32) (hf : pX5_setOfDinner f_needs f_members f_least f_troubleOf f_setOf x1 x2 x3 = some rr) : gg_M gN vwCl (gg_T cI cJ cZ cR) l D yX5_setOfDinner wsX5_setOfDinner ({ frames := 5, cells := 0, slots := 0, locals := 109 } : Room) [.ref q, .int x1, .int x2, .int x3] [(q, .inr (5, [.ref q_least, .ref q_troubleOf, .ref q_setOf, .int f_needs, .int f_members])), (q_least, .inl (cR, 7, .inr (.inr (.inr (.inr (gg_g [q_least_0, q_least_1, q_least_2, q_least_3, q_least_4, q_least_5, q_least_6])))))), (q_least_0, .inl (cI, 124, .inl (f_least 0))), (q_least_1, .inl (cI, 124, .inl (f_least 1))), (q_least_2, .inl (cI, 124, .inl (f_least 2))), (q_least_3, .inl (cI, 124, .inl (f_least 3))), (q_least_4, .inl (cI, 124, .inl (f_least 4))), (q_least_5, .inl (cI, 124, .inl (f_least 5))), (q_least_6, .inl (cI, 124, .inl (f_least 6))), (q_troubleOf, .inl (cI, 6, .inl f_troubleOf)), (q_setOf, .inl (cI, 6, .inl f_setOf))] (fun _ : Unit => some (.int rr)) (fun _ => [(q, .inr (5, [.ref q_least, .ref q_troubleOf, .ref q_setOf, .int f_needs, .int f_members])), (q_least, .inl (cR, 7, .inr (.inr (.inr (.inr (gg_g [q_least_0, q_least_1, q_least_2, q_least_3, q_least_4, q_least_5, q_least_6])))))), (q_least_0, .inl (cI, 124, .inl (f_least 0))), (q_least_1, .inl (cI, 124, .inl (f_least 1))), (q_least_2, .inl (cI, 124, .inl (f_least 2))), (q_least_3, .inl (cI, 124, .inl (f_least 3))), (q_least_4, .inl (cI, 124, .inl (f_least 4))), (q_least_5, .inl (cI, 124, .inl (f_least 5))), (q_least_6, .inl (cI, 124, .inl (f_least 6))), (q_troubleOf, .inl (cI, 6, .inl f_troubleOf)), (q_setOf, .inl (cI, 6, .inl f_setOf))]) := by
  refine gg_M.of (cc := cX5_setOfDinner) (maxL := 6) (rt := (some .int)) (by decide) rfl (Nat.le_of_ble_eq_true rfl) ?_
  intro p e s m below meth c A args Q hQ hx hb hr hml hts hown hlocks hin hA hS hP hK hD ls hl
  replace hown : s.vm.findClass RX5 = some m.cls := hown
  replace hl : lv_has ls 6 [(0, .ref q), (1, .int x1), (2, .int x2), (3, .int x3)] := hl
  have k20 := (hts (.fieldLink RX5 20 "AbsentCarpets$Planner" "setOf" "[I") (List.mem_of_getElem? (i := 1) rfl))
  have iX5 : ∀ w ∈ wsX50, w ∈ wsX5_setOfDinner := fun _ h => List.mem_cons_of_mem _ (List.mem_append_right _ (h))
  have L29 : ∀ (y2 : Int32) (y3 : Int32) (y6 : Int32), (∀ (H : Heap) (locs : List Loc) (ls : Array Slot), va_P D vwCl [(q, .inr (5, [.ref q_least, .ref q_troubleOf, .ref q_setOf, .int f_needs, .int f_members])), (q_least, .inl (cR, 7, .inr (.inr (.inr (.inr (gg_g [q_least_0, q_least_1, q_least_2, q_least_3, q_least_4, q_least_5, q_least_6])))))), (q_least_0, .inl (cI, 124, .inl (f_least 0))), (q_least_1, .inl (cI, 124, .inl (f_least 1))), (q_least_2, .inl (cI, 124, .inl (f_least 2))), (q_least_3, .inl (cI, 124, .inl (f_least 3))), (q_least_4, .inl (cI, 124, .inl (f_least 4))), (q_least_5, .inl (cI, 124, .inl (f_least 5))), (q_least_6, .inl (cI, 124, .inl (f_least 6))), (q_troubleOf, .inl (cI, 6, .inl f_troubleOf)), (q_setOf, .inl (cI, 6, .inl f_setOf))] H → va_D A [(q, .inr (5, [.ref q_least, .ref q_troubleOf, .ref q_setOf, .int f_needs, .int f_members])), (q_least, .inl (cR, 7, .inr (.inr (.inr (.inr (gg_g [q_least_0, q_least_1, q_least_2, q_least_3, q_least_4, q_least_5, q_least_6])))))), (q_least_0, .inl (cI, 124, .inl (f_least 0))), (q_least_1, .inl (cI, 124, .inl (f_least 1))), (q_least_2, .inl (cI, 124, .inl (f_least 2))), (q_least_3, .inl (cI, 124, .inl (f_least 3))), (q_least_4, .inl (cI, 124, .inl (f_least 4))), (q_least_5, .inl (cI, 124, .inl (f_least 5))), (q_least_6, .inl (cI, 124, .inl (f_least 6))), (q_troubleOf, .inl (cI, 6, .inl f_troubleOf)), (q_setOf, .inl (cI, 6, .inl f_setOf))] → va_S A s.heap H locs → lv_has ls 6 [(0, .ref q), (1, .int y2), (2, .int y3), (4, .int y6)] → W p l e ({ frames := 5, cells := 0, slots := 0, locals := 109 } : Room) s m args below meth c H locs 0 0 Q (F0 m 59 ls [])) → ∀ (nlp : Nat) (y4 : Int32) (y5 : Int32), gg_lpF (fun (s : (Int32 × Int32)) => pX5_setOfDinner_L29 f_needs f_members f_least f_troubleOf f_setOf y2 y3 s.1 s.2) nlp (y4, y5) = some y6 → ∀ (H : Heap) (locs : List Loc) (ls : Array Slot), va_P D vwCl [(q, .inr (5, [.ref q_least, .ref q_troubleOf, .ref q_setOf, .int f_needs, .int f_members])), (q_least, .inl (cR, 7, .inr (.inr (.inr (.inr (gg_g [q_least_0, q_least_1, q_least_2, q_least_3, q_least_4, q_least_5, q_least_6])))))), (q_least_0, .inl (cI, 124, .inl (f_least 0))), (q_least_1, .inl (cI, 124, .inl (f_least 1))), (q_least_2, .inl (cI, 124, .inl (f_least 2))), (q_least_3, .inl (cI, 124, .inl (f_least 3))), (q_least_4, .inl (cI, 124, .inl (f_least 4))), (q_least_5, .inl (cI, 124, .inl (f_least 5))), (q_least_6, .inl (cI, 124, .inl (f_least 6))), (q_troubleOf, .inl (cI, 6, .inl f_troubleOf)), (q_setOf, .inl (cI, 6, .inl f_setOf))] H → va_D A [(q, .inr (5, [.ref q_least, .ref q_troubleOf, .ref q_setOf, .int f_needs, .int f_members])), (q_least, .inl (cR, 7, .inr (.inr (.inr (.inr (gg_g [q_least_0, q_least_1, q_least_2, q_least_3, q_least_4, q_least_5, q_least_6])))))), (q_least_0, .inl (cI, 124, .inl (f_least 0))), (q_least_1, .inl (cI, 124, .inl (f_least 1))), (q_least_2, .inl (cI, 124, .inl (f_least 2))), (q_least_3, .inl (cI, 124, .inl (f_least 3))), (q_least_4, .inl (cI, 124, .inl (f_least 4))), (q_least_5, .inl (cI, 124, .inl (f_least 5))), (q_least_6, .inl (cI, 124, .inl (f_least 6))), (q_troubleOf, .inl (cI, 6, .inl f_troubleOf)), (q_setOf, .inl (cI, 6, .inl f_setOf))] → va_S A s.heap H locs → lv_has ls 6 [(0, .ref q), (1, .int y2), (2, .int y3), (4, .int y4), (5, .int y5)] → W p l e ({ frames := 5, cells := 0, slots := 0, locals := 109 } : Room) s m args below meth c H locs 0 0 Q (F0 m 29 ls []) := by
    intro y2 y3 y6 hE nlp
    induction nlp with
    | zero => intro y4 y5 hf; cases hf
    | succ nlp ih =>
      intro y4 y5 hf H locs ls hP hD hS hl
      obtain ⟨zz, hz, hzE, hzN⟩ := gg_lpF_x hf
      replace hf : pX5_setOfDinner_L29 f_needs f_members f_least f_troubleOf f_setOf y2 y3 y4 y5 = some zz := hz
      unfold pX5_setOfDinner_L29 at hf
      refine lv_iload hx hb dX5_setOfDinner_29 (lv_at hl 4 rfl) ?_
      refine lv_iload_n hx hb dX5_setOfDinner_31 rfl (lv_at hl 2 rfl) ?_
      refine lv_icmp_ge (tgt := 59) hx hb dX5_setOfDinner_32 (by decide) (fun hc => ?_) (fun hc => ?_)
      · replace hf := gg_pos hf hc
        have hq := hzE _ (Option.some.inj hf).symm
        cases hq
        exact hE _ _ _ hP hD hS (lv_sub hl [0, 1, 2, 3] rfl)
      · replace hf := gg_neg hf hc
        refine lv_aload_n hx hb dX5_setOfDinner_35 rfl (lv_at hl 0 rfl) ?_
        refine lv_iload hx hb dX5_setOfDinner_36 (lv_at hl 3 rfl) ?_
        refine lv_aload_n hx hb dX5_setOfDinner_38 rfl (lv_at hl 0 rfl) ?_
        refine lv_iload_n hx hb dX5_setOfDinner_39 rfl (lv_at hl 1 rfl) ?_
        refine lv_iload hx hb dX5_setOfDinner_40 (lv_at hl 4 rfl) ?_
        refine lv_isub hx hb dX5_setOfDinner_42 ?_
        refine lv_iload hx hb dX5_setOfDinner_43 (lv_at hl 3 rfl) ?_
        obtain ⟨r7, hu, hf⟩ := gg_c1_x hf
        refine gg_callV (wr := []) (w2 := fun _ => [(q, .inr (5, [.ref q_least, .ref q_troubleOf, .ref q_setOf, .int f_needs, .int f_members])), (q_least, .inl (cR, 7, .inr (.inr (.inr (.inr (gg_g [q_least_0, q_least_1, q_least_2, q_least_3, q_least_4, q_least_5, q_least_6])))))), (q_least_0, .inl (cI, 124, .inl (f_least 0))), (q_least_1, .inl (cI, 124, .inl (f_least 1))), (q_least_2, .inl (cI, 124, .inl (f_least 2))), (q_least_3, .inl (cI, 124, .inl (f_least 3))), (q_least_4, .inl (cI, 124, .inl (f_least 4))), (q_least_5, .inl (cI, 124, .inl (f_least 5))), (q_least_6, .inl (cI, 124, .inl (f_least 6))), (q_troubleOf, .inl (cI, 6, .inl f_troubleOf)), (q_setOf, .inl (cI, 6, .inl f_setOf))]) ⟨hx, hb, hml, hown, hts⟩ (mX5_firstChoice l D cI cJ cZ cR q q_least q_least_0 q_least_1 q_least_2 q_least_3 q_least_4 q_least_5 q_least_6 q_troubleOf q_setOf f_needs f_members f_least f_troubleOf f_setOf _ _ r7 hu) (cwV 2 hts gX5_setOfDinner_X5_firstChoice rfl rfl rfl (by decide +kernel) ⟨Nat.le_of_ble_eq_true rfl, Nat.le_of_ble_eq_true rfl⟩) hK hP hD hS hA 0 rfl rfl rfl rfl hl.1 rfl (Nat.le_of_ble_eq_true rfl) dX5_setOfDinner_45 ⟨Nat.le_of_ble_eq_true rfl, Nat.le_of_ble_eq_true rfl⟩ [0, 1, 2, 3, 4, 5, 6, 7, 8, 9, 10] [] rfl rfl rfl rfl rfl [0, 1, 2, 3, 4, 5, 6, 7, 8, 9, 10] rfl (fun _ => rfl) (fun _ H locs hP hD hS => ?_)
        refine gg_st_i ?_
        obtain ⟨r8, hu, hf⟩ := gg_c1_x hf
        refine gg_callV (wr := [(q_least, .inl (cR, 7, .inr (.inr (.inr (.inr (gg_g [q_least_0, q_least_1, q_least_2, q_least_3, q_least_4, q_least_5, q_least_6])))))), (q_least_0, .inl (cI, 124, .inl (f_least 0))), (q_least_1, .inl (cI, 124, .inl (f_least 1))), (q_least_2, .inl (cI, 124, .inl (f_least 2))), (q_least_3, .inl (cI, 124, .inl (f_least 3))), (q_least_4, .inl (cI, 124, .inl (f_least 4))), (q_least_5, .inl (cI, 124, .inl (f_least 5))), (q_least_6, .inl (cI, 124, .inl (f_least 6))), (q_troubleOf, .inl (cI, 6, .inl f_troubleOf)), (q_setOf, .inl (cI, 6, .inl f_setOf))]) (w2 := fun _ => [(q, .inr (5, [.ref q_least, .ref q_troubleOf, .ref q_setOf, .int f_needs, .int f_members])), (q_least, .inl (cR, 7, .inr (.inr (.inr (.inr (gg_g [q_least_0, q_least_1, q_least_2, q_least_3, q_least_4, q_least_5, q_least_6])))))), (q_least_0, .inl (cI, 124, .inl (f_least 0))), (q_least_1, .inl (cI, 124, .inl (f_least 1))), (q_least_2, .inl (cI, 124, .inl (f_least 2))), (q_least_3, .inl (cI, 124, .inl (f_least 3))), (q_least_4, .inl (cI, 124, .inl (f_least 4))), (q_least_5, .inl (cI, 124, .inl (f_least 5))), (q_least_6, .inl (cI, 124, .inl (f_least 6))), (q_troubleOf, .inl (cI, 6, .inl f_troubleOf)), (q_setOf, .inl (cI, 6, .inl f_setOf))]) ⟨hx, hb, hml, hown, hts⟩ (mX5_behind l D cI cJ cZ cR q q_least q_troubleOf q_setOf f_needs f_members _ _ r8 hu) (cwV 2 hts gX5_setOfDinner_X5_behind rfl rfl rfl (by decide +kernel) ⟨Nat.le_of_ble_eq_true rfl, Nat.le_of_ble_eq_true rfl⟩) hK hP hD hS hA 0 rfl rfl rfl rfl hl.1 rfl (Nat.le_of_ble_eq_true rfl) dX5_setOfDinner_48 ⟨Nat.le_of_ble_eq_true rfl, Nat.le_of_ble_eq_true rfl⟩ [0] [1, 2, 3, 4, 5, 6, 7, 8, 9, 10] rfl rfl rfl rfl rfl [10, 0, 1, 2, 3, 4, 5, 6, 7, 8, 9] rfl (fun _ => rfl) (fun _ H locs hP hD hS => ?_)
        refine gg_st_i ?_
        refine lv_istore (lv' := [(4, .int r8), (0, .ref q), (1, .int y2), (2, .int y3), (5, .int y5)]) hx hb dX5_setOfDinner_51 hl (by decide) rfl (fun ls hl => ?_)
        refine gg_iinc (cst := (1 : Int32)) (k := 4) (lv' := fun v9 => [(5, .int v9), (4, .int r8), (0, .ref q), (1, .int y2), (2, .int y3)]) hx hb dX5_setOfDinner_53 hl rfl (by decide) (by decide) (fun _ => rfl) hf (fun v9 ls hl hf => ?_)
        refine lv_goto (tgt := 29) hx hb dX5_setOfDinner_56 (by decide) ?_
        exact ih _ _ (hzN _ (Option.some.inj hf).symm) _ _ _ hP hD hS (lv_sub hl [2, 3, 4, 1, 0] rfl)
  unfold pX5_setOfDinner at hf
  refine lv_iload_n hx hb dX5_setOfDinner_0 rfl (lv_at hl 2 rfl) ?_
  refine lv_if_lt (tgt := 20) hx hb dX5_setOfDinner_1 (by decide) (fun hc => ?_) (fun hc => ?_)
  · replace hf := gg_pos hf hc
    refine lv_bipush (v := (-9 : Int32)) hx hb dX5_setOfDinner_20 (by decide) ?_
    cases hf
    rw [hQ]
    exact gg_iret hx hb hr hlocks hS (Nat.le_of_ble_eq_true rfl) (Nat.le_of_ble_eq_true rfl) dX5_setOfDinner_22 () rfl hP hD
  · replace hf := gg_neg hf hc
    refine lv_iload_n hx hb dX5_setOfDinner_4 rfl (lv_at hl 2 rfl) ?_
    refine lv_iload_n hx hb dX5_setOfDinner_5 rfl (lv_at hl 1 rfl) ?_
    refine lv_icmp_ge (tgt := 20) hx hb dX5_setOfDinner_6 (by decide) (fun hc => ?_) (fun hc => ?_)
    · replace hf := gg_pos hf hc
      refine lv_bipush (v := (-9 : Int32)) hx hb dX5_setOfDinner_20 (by decide) ?_
      cases hf
      rw [hQ]
      exact gg_iret hx hb hr hlocks hS (Nat.le_of_ble_eq_true rfl) (Nat.le_of_ble_eq_true rfl) dX5_setOfDinner_22 () rfl hP hD
    · replace hf := gg_neg hf hc
      refine lv_aload_n hx hb dX5_setOfDinner_9 rfl (lv_at hl 0 rfl) ?_
      refine lv_iload_n hx hb dX5_setOfDinner_10 rfl (lv_at hl 1 rfl) ?_
      refine lv_iload_n hx hb dX5_setOfDinner_11 rfl (lv_at hl 3 rfl) ?_
      obtain ⟨r1, hu, hf⟩ := gg_c1_x hf
      refine gg_callV (wr := [(q_troubleOf, .inl (cI, 6, .inl f_troubleOf)), (q_setOf, .inl (cI, 6, .inl f_setOf))]) (w2 := fun _ => [(q, .inr (5, [.ref q_least, .ref q_troubleOf, .ref q_setOf, .int f_needs, .int f_members])), (q_least, .inl (cR, 7, .inr (.inr (.inr (.inr (gg_g [q_least_0, q_least_1, q_least_2, q_least_3, q_least_4, q_least_5, q_least_6])))))), (q_least_0, .inl (cI, 124, .inl (f_least 0))), (q_least_1, .inl (cI, 124, .inl (f_least 1))), (q_least_2, .inl (cI, 124, .inl (f_least 2))), (q_least_3, .inl (cI, 124, .inl (f_least 3))), (q_least_4, .inl (cI, 124, .inl (f_least 4))), (q_least_5, .inl (cI, 124, .inl (f_least 5))), (q_least_6, .inl (cI, 124, .inl (f_least 6))), (q_troubleOf, .inl (cI, 6, .inl f_troubleOf)), (q_setOf, .inl (cI, 6, .inl f_setOf))]) ⟨hx, hb, hml, hown, hts⟩ (mX5_leastTrouble l D cI cJ cZ cR q q_least q_least_0 q_least_1 q_least_2 q_least_3 q_least_4 q_least_5 q_least_6 q_troubleOf q_setOf f_needs f_members f_least _ _ r1 hu) (cwV 2 hts gX5_setOfDinner_X5_leastTrouble rfl rfl rfl (by decide +kernel) ⟨Nat.le_of_ble_eq_true rfl, Nat.le_of_ble_eq_true rfl⟩) hK hP hD hS hA 0 rfl rfl rfl rfl hl.1 rfl (Nat.le_of_ble_eq_true rfl) dX5_setOfDinner_12 ⟨Nat.le_of_ble_eq_true rfl, Nat.le_of_ble_eq_true rfl⟩ [0, 1, 2, 3, 4, 5, 6, 7, 8] [9, 10] rfl rfl rfl rfl rfl [2, 3, 4, 5, 6, 7, 8, 9, 10, 0, 1] rfl (fun _ => rfl) (fun _ H locs hP hD hS => ?_)
      refine gg_st_i ?_
      refine lv_bipush (v := (-9 : Int32)) hx hb dX5_setOfDinner_15 (by decide) ?_
      refine lv_icmp_ne (tgt := 23) hx hb dX5_setOfDinner_17 (by decide) (fun hc => ?_) (fun hc => ?_)
      · replace hf := gg_neg hf hc
        refine lv_iload_n hx hb dX5_setOfDinner_23 rfl (lv_at hl 3 rfl) ?_
        refine lv_istore (lv' := [(4, .int x3), (0, .ref q), (1, .int x1), (2, .int x2), (3, .int x3)]) hx hb dX5_setOfDinner_24 hl (by decide) rfl (fun ls hl => ?_)
        refine lv_iconst (v := (0 : Int32)) hx hb dX5_setOfDinner_26 (by decide) ?_
        refine lv_istore (lv' := [(5, .int (0 : Int32)), (4, .int x3), (0, .ref q), (1, .int x1), (2, .int x2), (3, .int x3)]) hx hb dX5_setOfDinner_27 hl (by decide) rfl (fun ls hl => ?_)
        obtain ⟨y10, hlp, hf⟩ := gg_c1_x hf
        obtain ⟨nlp, hlp⟩ := gg_lp_x hlp
        refine L29 _ _ _ (fun H locs ls hP hD hS hl => ?_) nlp _ _ hlp _ _ _ hP hD hS (lv_sub hl [2, 3, 4, 1, 0] rfl)
        refine lv_aload_n hx hb dX5_setOfDinner_59 rfl (lv_at hl 0 rfl) ?_
        refine gg_get hx hb hts iX5 hown hK hP 0 rfl rfl 2 (by decide) k20 rfl rfl dX5_setOfDinner_60 ?_
        refine lv_aload_n hx hb dX5_setOfDinner_63 rfl (lv_at hl 0 rfl) ?_
        refine lv_iload_n hx hb dX5_setOfDinner_64 rfl (lv_at hl 1 rfl) ?_
        refine lv_iload_n hx hb dX5_setOfDinner_65 rfl (lv_at hl 2 rfl) ?_
        refine lv_isub hx hb dX5_setOfDinner_66 ?_
        refine lv_iload hx hb dX5_setOfDinner_67 (lv_at hl 3 rfl) ?_
        obtain ⟨r11, hu, hf⟩ := gg_c1_x hf
        refine gg_callV (wr := []) (w2 := fun _ => [(q, .inr (5, [.ref q_least, .ref q_troubleOf, .ref q_setOf, .int f_needs, .int f_members])), (q_least, .inl (cR, 7, .inr (.inr (.inr (.inr (gg_g [q_least_0, q_least_1, q_least_2, q_least_3, q_least_4, q_least_5, q_least_6])))))), (q_least_0, .inl (cI, 124, .inl (f_least 0))), (q_least_1, .inl (cI, 124, .inl (f_least 1))), (q_least_2, .inl (cI, 124, .inl (f_least 2))), (q_least_3, .inl (cI, 124, .inl (f_least 3))), (q_least_4, .inl (cI, 124, .inl (f_least 4))), (q_least_5, .inl (cI, 124, .inl (f_least 5))), (q_least_6, .inl (cI, 124, .inl (f_least 6))), (q_troubleOf, .inl (cI, 6, .inl f_troubleOf)), (q_setOf, .inl (cI, 6, .inl f_setOf))]) ⟨hx, hb, hml, hown, hts⟩ (mX5_firstChoice l D cI cJ cZ cR q q_least q_least_0 q_least_1 q_least_2 q_least_3 q_least_4 q_least_5 q_least_6 q_troubleOf q_setOf f_needs f_members f_least f_troubleOf f_setOf _ _ r11 hu) (cwV 2 hts gX5_setOfDinner_X5_firstChoice rfl rfl rfl (by decide +kernel) ⟨Nat.le_of_ble_eq_true rfl, Nat.le_of_ble_eq_true rfl⟩) hK hP hD hS hA 0 rfl rfl rfl rfl hl.1 rfl (Nat.le_of_ble_eq_true rfl) dX5_setOfDinner_69 ⟨Nat.le_of_ble_eq_true rfl, Nat.le_of_ble_eq_true rfl⟩ [0, 1, 2, 3, 4, 5, 6, 7, 8, 9, 10] [] rfl rfl rfl rfl rfl [0, 1, 2, 3, 4, 5, 6, 7, 8, 9, 10] rfl (fun _ => rfl) (fun _ H locs hP hD hS => ?_)
        refine gg_st_i ?_
        refine gg_iald hx hb hK hP 10 0 rfl rfl dX5_setOfDinner_72 hf (fun hf => ?_)
        cases hf
        rw [hQ]
        exact gg_iret hx hb hr hlocks hS (Nat.le_of_ble_eq_true rfl) (Nat.le_of_ble_eq_true rfl) dX5_setOfDinner_73 () rfl hP hD
      · replace hf := gg_pos hf hc
        refine lv_bipush (v := (-9 : Int32)) hx hb dX5_setOfDinner_20 (by decide) ?_
        cases hf
        rw [hQ]
        exact gg_iret hx hb hr hlocks hS (Nat.le_of_ble_eq_true rfl) (Nat.le_of_ble_eq_true rfl) dX5_setOfDinner_22 () rfl hP hD
set_option maxHeartbeats 4000000 in
set_option maxRecDepth 100000 in
theorem mX7_inviteAt (l : Launch) (D : va_G) (cI cJ cZ cR : ClassId) (q q_lived q_lived_needs q_lived_roomOf q_lived_grudgeOf q_lived_quarrelOf q_carpets q_carpets_cells q_planner q_planner_least q_planner_least_0 q_planner_least_1 q_planner_least_2 q_planner_least_3 q_planner_least_4 q_planner_least_5 q_planner_least_6 q_planner_troubleOf q_planner_setOf q_text q_reader q_acts q_slots q_slotFilled q_evening q_chances q_lived_colourOf q_lived_tenthsOf : Nat) (f_textLength : Int32) (f_seedNow : Int64) (f_lived_rooms : Int32) (f_lived_people : Int32) (f_lived_quarrels : Int32) (f_lived_needs : (Nat → Int32)) (f_lived_roomOf : (Nat → Int32)) (f_lived_grudgeOf : (Nat → Int32)) (f_lived_quarrelOf : (Nat → Int32)) (f_carpets_cells : (Nat → Int32)) (f_planner_needs : Int32) (f_planner_members : Int32) (f_planner_least : (Nat → Nat → Int32)) (f_planner_troubleOf : (Nat → Int32)) (f_planner_setOf : (Nat → Int32)) (x1 : Int32) (x2 : Int32) (x3 : Int32) (rr : Int32) (nf_planner_needs : Int32) (nf_planner_members : Int32) (nf_planner_least : (Nat → Nat → Int32)) (nf_planner_troubleOf : (Nat → Int32)) (nf_planner_setOf : (Nat → Int32)) (hf : pX7_inviteAt f_lived_rooms f_lived_people f_lived_needs f_lived_roomOf f_lived_grudgeOf f_lived_quarrelOf f_carpets_cells f_planner_needs f_planner_members f_planner_least f_planner_troubleOf f_planner_setOf x1 x2 x3 = some (rr, nf_planner_needs, nf_planner_members, nf_planner_least, nf_planner_troubleOf, nf_planner_setOf)) : gg_M gN vwCl (gg_T cI cJ cZ cR) l D yX7_inviteAt wsX7_inviteAt ({ frames := 6, cells := 0, slots := 0, locals := 143 } : Room) [.ref q, .int x1, .int x2, .int x3] [(q, .inr (7, [.ref q_text, .int f_textLength, .ref q_reader, .ref q_lived, .ref q_carpets, .ref q_acts, .ref q_slots, .ref q_slotFilled, .ref q_evening, .ref q_planner, .ref q_chances, .long f_seedNow])), (q_lived, .inr (4, [.int f_lived_rooms, .int f_lived_people, .int f_lived_quarrels, .ref q_lived_needs, .ref q_lived_roomOf, .ref q_lived_colourOf, .ref q_lived_grudgeOf, .ref q_lived_tenthsOf, .ref q_lived_quarrelOf])), (q_lived_needs, .inl (cI, 3, .inl f_lived_needs)), (q_lived_roomOf, .inl (cI, 5, .inl f_lived_roomOf)), (q_lived_grudgeOf, .inl (cI, 5, .inl f_lived_grudgeOf)), (q_lived_quarrelOf, .inl (cI, 25, .inl f_lived_quarrelOf)), (q_carpets, .inr (1, [.ref q_carpets_cells])), (q_carpets_cells, .inl (cI, 97, .inl f_carpets_cells)), (q_planner, .inr (5, [.ref q_planner_least, .ref q_planner_troubleOf, .ref q_planner_setOf, .int f_planner_needs, .int f_planner_members])), (q_planner_least, .inl (cR, 7, .inr (.inr (.inr (.inr (gg_g [q_planner_least_0, q_planner_least_1, q_planner_least_2, q_planner_least_3, q_planner_least_4, q_planner_least_5, q_planner_least_6])))))), (q_planner_least_0, .inl (cI, 124, .inl (f_planner_least 0))), (q_planner_least_1, .inl (cI, 124, .inl (f_planner_least 1))), (q_planner_least_2, .inl (cI, 124, .inl (f_planner_least 2))), (q_planner_least_3, .inl (cI, 124, .inl (f_planner_least 3))), (q_planner_least_4, .inl (cI, 124, .inl (f_planner_least 4))), (q_planner_least_5, .inl (cI, 124, .inl (f_planner_least 5))), (q_planner_least_6, .inl (cI, 124, .inl (f_planner_least 6))), (q_planner_troubleOf, .inl (cI, 6, .inl f_planner_troubleOf)), (q_planner_setOf, .inl (cI, 6, .inl f_planner_setOf))] (fun _ : Unit => some (.int rr)) (fun _ => [(q, .inr (7, [.ref q_text, .int f_textLength, .ref q_reader, .ref q_lived, .ref q_carpets, .ref q_acts, .ref q_slots, .ref q_slotFilled, .ref q_evening, .ref q_planner, .ref q_chances, .long f_seedNow])), (q_lived, .inr (4, [.int f_lived_rooms, .int f_lived_people, .int f_lived_quarrels, .ref q_lived_needs, .ref q_lived_roomOf, .ref q_lived_colourOf, .ref q_lived_grudgeOf, .ref q_lived_tenthsOf, .ref q_lived_quarrelOf])), (q_lived_needs, .inl (cI, 3, .inl f_lived_needs)), (q_lived_roomOf, .inl (cI, 5, .inl f_lived_roomOf)), (q_lived_grudgeOf, .inl (cI, 5, .inl f_lived_grudgeOf)), (q_lived_quarrelOf, .inl (cI, 25, .inl f_lived_quarrelOf)), (q_carpets, .inr (1, [.ref q_carpets_cells])), (q_carpets_cells, .inl (cI, 97, .inl f_carpets_cells)), (q_planner, .inr (5, [.ref q_planner_least, .ref q_planner_troubleOf, .ref q_planner_setOf, .int nf_planner_needs, .int nf_planner_members])), (q_planner_least, .inl (cR, 7, .inr (.inr (.inr (.inr (gg_g [q_planner_least_0, q_planner_least_1, q_planner_least_2, q_planner_least_3, q_planner_least_4, q_planner_least_5, q_planner_least_6])))))), (q_planner_least_0, .inl (cI, 124, .inl (nf_planner_least 0))), (q_planner_least_1, .inl (cI, 124, .inl (nf_planner_least 1))), (q_planner_least_2, .inl (cI, 124, .inl (nf_planner_least 2))), (q_planner_least_3, .inl (cI, 124, .inl (nf_planner_least 3))), (q_planner_least_4, .inl (cI, 124, .inl (nf_planner_least 4))), (q_planner_least_5, .inl (cI, 124, .inl (nf_planner_least 5))), (q_planner_least_6, .inl (cI, 124, .inl (nf_planner_least 6))), (q_planner_troubleOf, .inl (cI, 6, .inl nf_planner_troubleOf)), (q_planner_setOf, .inl (cI, 6, .inl nf_planner_setOf))]) := by
  refine gg_M.of (cc := cX7_inviteAt) (maxL := 4) (rt := (some .int)) (by decide) rfl (Nat.le_of_ble_eq_true rfl) ?_
  intro p e s m below meth c A args Q hQ hx hb hr hml hts hown hlocks hin hA hS hP hK hD ls hl
  replace hown : s.vm.findClass RX7 = some m.cls := hown
  replace hl : lv_has ls 4 [(0, .ref q), (1, .int x1), (2, .int x2), (3, .int x3)] := hl
  have k27 := (hts (.fieldLink RX7 27 "AbsentCarpets" "lived" "LAbsentCarpets$House;") (List.mem_of_getElem? (i := 1) rfl))
  have k64 := (hts (.fieldLink RX7 64 "AbsentCarpets" "planner" "LAbsentCarpets$Planner;") (List.mem_of_getElem? (i := 2) rfl))
  have iX7 : ∀ w ∈ wsX70, w ∈ wsX7_inviteAt := fun _ h => List.mem_cons_of_mem _ (List.mem_append_left _ (List.mem_append_left _ (List.mem_append_left _ (List.mem_append_right _ (h)))))
  unfold pX7_inviteAt at hf
  refine lv_aload_n hx hb dX7_inviteAt_0 rfl (lv_at hl 0 rfl) ?_
  refine gg_get hx hb hts iX7 hown hK hP 0 rfl rfl 3 (by decide) k27 rfl rfl dX7_inviteAt_1 ?_
  refine lv_iload_n hx hb dX7_inviteAt_4 rfl (lv_at hl 1 rfl) ?_
  obtain ⟨r1, hu, hf⟩ := gg_c1_x hf
  refine gg_callV (wr := [(q, .inr (7, [.ref q_text, .int f_textLength, .ref q_reader, .ref q_lived, .ref q_carpets, .ref q_acts, .ref q_slots, .ref q_slotFilled, .ref q_evening, .ref q_planner, .ref q_chances, .long f_seedNow])), (q_lived_needs, .inl (cI, 3, .inl f_lived_needs)), (q_lived_roomOf, .inl (cI, 5, .inl f_lived_roomOf)), (q_lived_grudgeOf, .inl (cI, 5, .inl f_lived_grudgeOf)), (q_lived_quarrelOf, .inl (cI, 25, .inl f_lived_quarrelOf)), (q_carpets, .inr (1, [.ref q_carpets_cells])), (q_carpets_cells, .inl (cI, 97, .inl f_carpets_cells)), (q_planner, .inr (5, [.ref q_planner_least, .ref q_planner_troubleOf, .ref q_planner_setOf, .int f_planner_needs, .int f_planner_members])), (q_planner_least, .inl (cR, 7, .inr (.inr (.inr (.inr (gg_g [q_planner_least_0, q_planner_least_1, q_planner_least_2, q_planner_least_3, q_planner_least_4, q_planner_least_5, q_planner_least_6])))))), (q_planner_least_0, .inl (cI, 124, .inl (f_planner_least 0))), (q_planner_least_1, .inl (cI, 124, .inl (f_planner_least 1))), (q_planner_least_2, .inl (cI, 124, .inl (f_planner_least 2))), (q_planner_least_3, .inl (cI, 124, .inl (f_planner_least 3))), (q_planner_least_4, .inl (cI, 124, .inl (f_planner_least 4))), (q_planner_least_5, .inl (cI, 124, .inl (f_planner_least 5))), (q_planner_least_6, .inl (cI, 124, .inl (f_planner_least 6))), (q_planner_troubleOf, .inl (cI, 6, .inl f_planner_troubleOf)), (q_planner_setOf, .inl (cI, 6, .inl f_planner_setOf))]) (w2 := fun _ => [(q, .inr (7, [.ref q_text, .int f_textLength, .ref q_reader, .ref q_lived, .ref q_carpets, .ref q_acts, .ref q_slots, .ref q_slotFilled, .ref q_evening, .ref q_planner, .ref q_chances, .long f_seedNow])), (q_lived, .inr (4, [.int f_lived_rooms, .int f_lived_people, .int f_lived_quarrels, .ref q_lived_needs, .ref q_lived_roomOf, .ref q_lived_colourOf, .ref q_lived_grudgeOf, .ref q_lived_tenthsOf, .ref q_lived_quarrelOf])), (q_lived_needs, .inl (cI, 3, .inl f_lived_needs)), (q_lived_roomOf, .inl (cI, 5, .inl f_lived_roomOf)), (q_lived_grudgeOf, .inl (cI, 5, .inl f_lived_grudgeOf)), (q_lived_quarrelOf, .inl (cI, 25, .inl f_lived_quarrelOf)), (q_carpets, .inr (1, [.ref q_carpets_cells])), (q_carpets_cells, .inl (cI, 97, .inl f_carpets_cells)), (q_planner, .inr (5, [.ref q_planner_least, .ref q_planner_troubleOf, .ref q_planner_setOf, .int f_planner_needs, .int f_planner_members])), (q_planner_least, .inl (cR, 7, .inr (.inr (.inr (.inr (gg_g [q_planner_least_0, q_planner_least_1, q_planner_least_2, q_planner_least_3, q_planner_least_4, q_planner_least_5, q_planner_least_6])))))), (q_planner_least_0, .inl (cI, 124, .inl (f_planner_least 0))), (q_planner_least_1, .inl (cI, 124, .inl (f_planner_least 1))), (q_planner_least_2, .inl (cI, 124, .inl (f_planner_least 2))), (q_planner_least_3, .inl (cI, 124, .inl (f_planner_least 3))), (q_planner_least_4, .inl (cI, 124, .inl (f_planner_least 4))), (q_planner_least_5, .inl (cI, 124, .inl (f_planner_least 5))), (q_planner_least_6, .inl (cI, 124, .inl (f_planner_least 6))), (q_planner_troubleOf, .inl (cI, 6, .inl f_planner_troubleOf)), (q_planner_setOf, .inl (cI, 6, .inl f_planner_setOf))]) ⟨hx, hb, hml, hown, hts⟩ (mX4_hasRoom l D cI cJ cZ cR q_lived q_lived_needs q_lived_roomOf q_lived_colourOf q_lived_grudgeOf q_lived_tenthsOf q_lived_quarrelOf f_lived_rooms f_lived_people f_lived_quarrels _ r1 hu) (cwV 1 hts gX7_inviteAt_X4_hasRoom rfl rfl rfl (by decide +kernel) ⟨Nat.le_of_ble_eq_true rfl, Nat.le_of_ble_eq_true rfl⟩) hK hP hD hS hA 1 rfl rfl rfl rfl hl.1 rfl (Nat.le_of_ble_eq_true rfl) dX7_inviteAt_5 ⟨Nat.le_of_ble_eq_true rfl, Nat.le_of_ble_eq_true rfl⟩ [1] [0, 2, 3, 4, 5, 6, 7, 8, 9, 10, 11, 12, 13, 14, 15, 16, 17, 18] rfl rfl rfl rfl rfl [0, 18, 1, 2, 3, 4, 5, 6, 7, 8, 9, 10, 11, 12, 13, 14, 15, 16, 17] rfl (fun _ => rfl) (fun _ H locs hP hD hS => ?_)
  refine gg_st_i ?_
  refine lv_if_ne (tgt := 13) hx hb dX7_inviteAt_8 (by decide) (fun hc => ?_) (fun hc => ?_)
  · replace hf := gg_neg hf hc
    refine lv_iload_n hx hb dX7_inviteAt_13 rfl (lv_at hl 2 rfl) ?_
    refine lv_iconst (v := (1 : Int32)) hx hb dX7_inviteAt_14 (by decide) ?_
    refine lv_icmp_lt (tgt := 24) hx hb dX7_inviteAt_15 (by decide) (fun hc => ?_) (fun hc => ?_)
    · replace hf := gg_pos hf hc
      refine lv_bipush (v := (-2 : Int32)) hx hb dX7_inviteAt_24 (by decide) ?_
      cases hf
      rw [hQ]
      exact gg_iret hx hb hr hlocks hS (Nat.le_of_ble_eq_true rfl) (Nat.le_of_ble_eq_true rfl) dX7_inviteAt_26 () rfl hP hD
    · replace hf := gg_neg hf hc
      refine lv_iload_n hx hb dX7_inviteAt_18 rfl (lv_at hl 2 rfl) ?_
      refine lv_bipush (v := (6 : Int32)) hx hb dX7_inviteAt_19 (by decide) ?_
      refine lv_icmp_le (tgt := 27) hx hb dX7_inviteAt_21 (by decide) (fun hc => ?_) (fun hc => ?_)
      · replace hf := gg_pos hf hc
        refine lv_aload_n hx hb dX7_inviteAt_27 rfl (lv_at hl 0 rfl) ?_
        refine gg_get hx hb hts iX7 hown hK hP 0 rfl rfl 9 (by decide) k64 rfl rfl dX7_inviteAt_28 ?_
        refine lv_aload_n hx hb dX7_inviteAt_31 rfl (lv_at hl 0 rfl) ?_
        refine gg_get hx hb hts iX7 hown hK hP 0 rfl rfl 3 (by decide) k27 rfl rfl dX7_inviteAt_32 ?_
        refine lv_iload_n hx hb dX7_inviteAt_35 rfl (lv_at hl 1 rfl) ?_
        refine lv_iload_n hx hb dX7_inviteAt_36 rfl (lv_at hl 2 rfl) ?_
        obtain ⟨u2, u3, u4, u5, u6, hu, hf⟩ := gg_c5_x hf
        refine gg_callV (wr := [(q, .inr (7, [.ref q_text, .int f_textLength, .ref q_reader, .ref q_lived, .ref q_carpets, .ref q_acts, .ref q_slots, .ref q_slotFilled, .ref q_evening, .ref q_planner, .ref q_chances, .long f_seedNow])), (q_carpets, .inr (1, [.ref q_carpets_cells])), (q_carpets_cells, .inl (cI, 97, .inl f_carpets_cells))]) (w2 := fun _ => [(q, .inr (7, [.ref q_text, .int f_textLength, .ref q_reader, .ref q_lived, .ref q_carpets, .ref q_acts, .ref q_slots, .ref q_slotFilled, .ref q_evening, .ref q_planner, .ref q_chances, .long f_seedNow])), (q_lived, .inr (4, [.int f_lived_rooms, .int f_lived_people, .int f_lived_quarrels, .ref q_lived_needs, .ref q_lived_roomOf, .ref q_lived_colourOf, .ref q_lived_grudgeOf, .ref q_lived_tenthsOf, .ref q_lived_quarrelOf])), (q_lived_needs, .inl (cI, 3, .inl f_lived_needs)), (q_lived_roomOf, .inl (cI, 5, .inl f_lived_roomOf)), (q_lived_grudgeOf, .inl (cI, 5, .inl f_lived_grudgeOf)), (q_lived_quarrelOf, .inl (cI, 25, .inl f_lived_quarrelOf)), (q_carpets, .inr (1, [.ref q_carpets_cells])), (q_carpets_cells, .inl (cI, 97, .inl f_carpets_cells)), (q_planner, .inr (5, [.ref q_planner_least, .ref q_planner_troubleOf, .ref q_planner_setOf, .int u2, .int u3])), (q_planner_least, .inl (cR, 7, .inr (.inr (.inr (.inr (gg_g [q_planner_least_0, q_planner_least_1, q_planner_least_2, q_planner_least_3, q_planner_least_4, q_planner_least_5, q_planner_least_6])))))), (q_planner_least_0, .inl (cI, 124, .inl (u4 0))), (q_planner_least_1, .inl (cI, 124, .inl (u4 1))), (q_planner_least_2, .inl (cI, 124, .inl (u4 2))), (q_planner_least_3, .inl (cI, 124, .inl (u4 3))), (q_planner_least_4, .inl (cI, 124, .inl (u4 4))), (q_planner_least_5, .inl (cI, 124, .inl (u4 5))), (q_planner_least_6, .inl (cI, 124, .inl (u4 6))), (q_planner_troubleOf, .inl (cI, 6, .inl u5)), (q_planner_setOf, .inl (cI, 6, .inl u6))]) ⟨hx, hb, hml, hown, hts⟩ (mX5_plan l D cI cJ cZ cR q_planner q_planner_least q_planner_least_0 q_planner_least_1 q_planner_least_2 q_planner_least_3 q_planner_least_4 q_planner_least_5 q_planner_least_6 q_planner_troubleOf q_planner_setOf q_lived q_lived_needs q_lived_roomOf q_lived_grudgeOf q_lived_quarrelOf q_lived_colourOf q_lived_tenthsOf f_planner_needs f_planner_members f_planner_least f_planner_troubleOf f_planner_setOf f_lived_rooms f_lived_people f_lived_quarrels f_lived_needs f_lived_roomOf f_lived_grudgeOf f_lived_quarrelOf _ _ u2 u3 u4 u5 u6 hu) (cwV 3 hts gX7_inviteAt_X5_plan rfl rfl rfl (by decide +kernel) ⟨Nat.le_of_ble_eq_true rfl, Nat.le_of_ble_eq_true rfl⟩) hK hP hD hS hA 8 rfl rfl rfl rfl hl.1 rfl (Nat.le_of_ble_eq_true rfl) dX7_inviteAt_37 ⟨Nat.le_of_ble_eq_true rfl, Nat.le_of_ble_eq_true rfl⟩ [8, 9, 10, 11, 12, 13, 14, 15, 16, 17, 18, 1, 2, 3, 4, 5] [0, 6, 7] rfl rfl rfl rfl rfl [0, 14, 15, 16, 17, 18, 1, 2, 3, 4, 5, 6, 7, 8, 9, 10, 11, 12, 13] rfl (fun _ => rfl) (fun _ H locs hP hD hS => ?_)
        refine gg_st_v ?_
        refine lv_aload_n hx hb dX7_inviteAt_40 rfl (lv_at hl 0 rfl) ?_
        refine gg_get hx hb hts iX7 hown hK hP 0 rfl rfl 9 (by decide) k64 rfl rfl dX7_inviteAt_41 ?_
        refine lv_iload_n hx hb dX7_inviteAt_44 rfl (lv_at hl 2 rfl) ?_
        refine lv_iload_n hx hb dX7_inviteAt_45 rfl (lv_at hl 3 rfl) ?_
        refine lv_aload_n hx hb dX7_inviteAt_46 rfl (lv_at hl 0 rfl) ?_
        refine lv_iload_n hx hb dX7_inviteAt_47 rfl (lv_at hl 1 rfl) ?_
        obtain ⟨r7, hu, hf⟩ := gg_c1_x hf
        refine gg_callV (wr := [(q_lived, .inr (4, [.int f_lived_rooms, .int f_lived_people, .int f_lived_quarrels, .ref q_lived_needs, .ref q_lived_roomOf, .ref q_lived_colourOf, .ref q_lived_grudgeOf, .ref q_lived_tenthsOf, .ref q_lived_quarrelOf])), (q_lived_needs, .inl (cI, 3, .inl f_lived_needs)), (q_lived_roomOf, .inl (cI, 5, .inl f_lived_roomOf)), (q_lived_grudgeOf, .inl (cI, 5, .inl f_lived_grudgeOf)), (q_lived_quarrelOf, .inl (cI, 25, .inl f_lived_quarrelOf)), (q_planner, .inr (5, [.ref q_planner_least, .ref q_planner_troubleOf, .ref q_planner_setOf, .int u2, .int u3])), (q_planner_least, .inl (cR, 7, .inr (.inr (.inr (.inr (gg_g [q_planner_least_0, q_planner_least_1, q_planner_least_2, q_planner_least_3, q_planner_least_4, q_planner_least_5, q_planner_least_6])))))), (q_planner_least_0, .inl (cI, 124, .inl (u4 0))), (q_planner_least_1, .inl (cI, 124, .inl (u4 1))), (q_planner_least_2, .inl (cI, 124, .inl (u4 2))), (q_planner_least_3, .inl (cI, 124, .inl (u4 3))), (q_planner_least_4, .inl (cI, 124, .inl (u4 4))), (q_planner_least_5, .inl (cI, 124, .inl (u4 5))), (q_planner_least_6, .inl (cI, 124, .inl (u4 6))), (q_planner_troubleOf, .inl (cI, 6, .inl u5)), (q_planner_setOf, .inl (cI, 6, .inl u6))]) (w2 := fun _ => [(q, .inr (7, [.ref q_text, .int f_textLength, .ref q_reader, .ref q_lived, .ref q_carpets, .ref q_acts, .ref q_slots, .ref q_slotFilled, .ref q_evening, .ref q_planner, .ref q_chances, .long f_seedNow])), (q_lived, .inr (4, [.int f_lived_rooms, .int f_lived_people, .int f_lived_quarrels, .ref q_lived_needs, .ref q_lived_roomOf, .ref q_lived_colourOf, .ref q_lived_grudgeOf, .ref q_lived_tenthsOf, .ref q_lived_quarrelOf])), (q_lived_needs, .inl (cI, 3, .inl f_lived_needs)), (q_lived_roomOf, .inl (cI, 5, .inl f_lived_roomOf)), (q_lived_grudgeOf, .inl (cI, 5, .inl f_lived_grudgeOf)), (q_lived_quarrelOf, .inl (cI, 25, .inl f_lived_quarrelOf)), (q_carpets, .inr (1, [.ref q_carpets_cells])), (q_carpets_cells, .inl (cI, 97, .inl f_carpets_cells)), (q_planner, .inr (5, [.ref q_planner_least, .ref q_planner_troubleOf, .ref q_planner_setOf, .int u2, .int u3])), (q_planner_least, .inl (cR, 7, .inr (.inr (.inr (.inr (gg_g [q_planner_least_0, q_planner_least_1, q_planner_least_2, q_planner_least_3, q_planner_least_4, q_planner_least_5, q_planner_least_6])))))), (q_planner_least_0, .inl (cI, 124, .inl (u4 0))), (q_planner_least_1, .inl (cI, 124, .inl (u4 1))), (q_planner_least_2, .inl (cI, 124, .inl (u4 2))), (q_planner_least_3, .inl (cI, 124, .inl (u4 3))), (q_planner_least_4, .inl (cI, 124, .inl (u4 4))), (q_planner_least_5, .inl (cI, 124, .inl (u4 5))), (q_planner_least_6, .inl (cI, 124, .inl (u4 6))), (q_planner_troubleOf, .inl (cI, 6, .inl u5)), (q_planner_setOf, .inl (cI, 6, .inl u6))]) ⟨hx, hb, hml, hown, hts⟩ (mX7_standOf l D cI cJ cZ cR q q_carpets q_carpets_cells q_text q_reader q_lived q_acts q_slots q_slotFilled q_evening q_planner q_chances f_textLength f_seedNow f_carpets_cells _ r7 hu) (cwV 1 hts gX7_inviteAt_X7_standOf rfl rfl rfl (by decide +kernel) ⟨Nat.le_of_ble_eq_true rfl, Nat.le_of_ble_eq_true rfl⟩) hK hP hD hS hA 0 rfl rfl rfl rfl hl.1 rfl (Nat.le_of_ble_eq_true rfl) dX7_inviteAt_48 ⟨Nat.le_of_ble_eq_true rfl, Nat.le_of_ble_eq_true rfl⟩ [0, 6, 7] [1, 2, 3, 4, 5, 8, 9, 10, 11, 12, 13, 14, 15, 16, 17, 18] rfl rfl rfl rfl rfl [16, 0, 1, 2, 3, 4, 17, 18, 5, 6, 7, 8, 9, 10, 11, 12, 13, 14, 15] rfl (fun _ => rfl) (fun _ H locs hP hD hS => ?_)
        refine gg_st_i ?_
        obtain ⟨r8, hu, hf⟩ := gg_c1_x hf
        refine gg_callV (wr := [(q, .inr (7, [.ref q_text, .int f_textLength, .ref q_reader, .ref q_lived, .ref q_carpets, .ref q_acts, .ref q_slots, .ref q_slotFilled, .ref q_evening, .ref q_planner, .ref q_chances, .long f_seedNow])), (q_lived, .inr (4, [.int f_lived_rooms, .int f_lived_people, .int f_lived_quarrels, .ref q_lived_needs, .ref q_lived_roomOf, .ref q_lived_colourOf, .ref q_lived_grudgeOf, .ref q_lived_tenthsOf, .ref q_lived_quarrelOf])), (q_lived_needs, .inl (cI, 3, .inl f_lived_needs)), (q_lived_roomOf, .inl (cI, 5, .inl f_lived_roomOf)), (q_lived_grudgeOf, .inl (cI, 5, .inl f_lived_grudgeOf)), (q_lived_quarrelOf, .inl (cI, 25, .inl f_lived_quarrelOf)), (q_carpets, .inr (1, [.ref q_carpets_cells])), (q_carpets_cells, .inl (cI, 97, .inl f_carpets_cells))]) (w2 := fun _ => [(q, .inr (7, [.ref q_text, .int f_textLength, .ref q_reader, .ref q_lived, .ref q_carpets, .ref q_acts, .ref q_slots, .ref q_slotFilled, .ref q_evening, .ref q_planner, .ref q_chances, .long f_seedNow])), (q_lived, .inr (4, [.int f_lived_rooms, .int f_lived_people, .int f_lived_quarrels, .ref q_lived_needs, .ref q_lived_roomOf, .ref q_lived_colourOf, .ref q_lived_grudgeOf, .ref q_lived_tenthsOf, .ref q_lived_quarrelOf])), (q_lived_needs, .inl (cI, 3, .inl f_lived_needs)), (q_lived_roomOf, .inl (cI, 5, .inl f_lived_roomOf)), (q_lived_grudgeOf, .inl (cI, 5, .inl f_lived_grudgeOf)), (q_lived_quarrelOf, .inl (cI, 25, .inl f_lived_quarrelOf)), (q_carpets, .inr (1, [.ref q_carpets_cells])), (q_carpets_cells, .inl (cI, 97, .inl f_carpets_cells)), (q_planner, .inr (5, [.ref q_planner_least, .ref q_planner_troubleOf, .ref q_planner_setOf, .int u2, .int u3])), (q_planner_least, .inl (cR, 7, .inr (.inr (.inr (.inr (gg_g [q_planner_least_0, q_planner_least_1, q_planner_least_2, q_planner_least_3, q_planner_least_4, q_planner_least_5, q_planner_least_6])))))), (q_planner_least_0, .inl (cI, 124, .inl (u4 0))), (q_planner_least_1, .inl (cI, 124, .inl (u4 1))), (q_planner_least_2, .inl (cI, 124, .inl (u4 2))), (q_planner_least_3, .inl (cI, 124, .inl (u4 3))), (q_planner_least_4, .inl (cI, 124, .inl (u4 4))), (q_planner_least_5, .inl (cI, 124, .inl (u4 5))), (q_planner_least_6, .inl (cI, 124, .inl (u4 6))), (q_planner_troubleOf, .inl (cI, 6, .inl u5)), (q_planner_setOf, .inl (cI, 6, .inl u6))]) ⟨hx, hb, hml, hown, hts⟩ (mX5_setOfDinner l D cI cJ cZ cR q_planner q_planner_least q_planner_least_0 q_planner_least_1 q_planner_least_2 q_planner_least_3 q_planner_least_4 q_planner_least_5 q_planner_least_6 q_planner_troubleOf q_planner_setOf u2 u3 u4 u5 u6 _ _ _ r8 hu) (cwV 3 hts gX7_inviteAt_X5_setOfDinner rfl rfl rfl (by decide +kernel) ⟨Nat.le_of_ble_eq_true rfl, Nat.le_of_ble_eq_true rfl⟩) hK hP hD hS hA 8 rfl rfl rfl rfl hl.1 rfl (Nat.le_of_ble_eq_true rfl) dX7_inviteAt_51 ⟨Nat.le_of_ble_eq_true rfl, Nat.le_of_ble_eq_true rfl⟩ [8, 9, 10, 11, 12, 13, 14, 15, 16, 17, 18] [0, 1, 2, 3, 4, 5, 6, 7] rfl rfl rfl rfl rfl [0, 1, 2, 3, 4, 5, 6, 7, 8, 9, 10, 11, 12, 13, 14, 15, 16, 17, 18] rfl (fun _ => rfl) (fun _ H locs hP hD hS => ?_)
        refine gg_st_i ?_
        cases hf
        rw [hQ]
        exact gg_iret hx hb hr hlocks hS (Nat.le_of_ble_eq_true rfl) (Nat.le_of_ble_eq_true rfl) dX7_inviteAt_54 () rfl hP hD
      · replace hf := gg_neg hf hc
        refine lv_bipush (v := (-2 : Int32)) hx hb dX7_inviteAt_24 (by decide) ?_
        cases hf
        rw [hQ]
        exact gg_iret hx hb hr hlocks hS (Nat.le_of_ble_eq_true rfl) (Nat.le_of_ble_eq_true rfl) dX7_inviteAt_26 () rfl hP hD
  · replace hf := gg_pos hf hc
    refine lv_iconst (v := (-1 : Int32)) hx hb dX7_inviteAt_11 (by decide) ?_
    cases hf
    rw [hQ]
    exact gg_iret hx hb hr hlocks hS (Nat.le_of_ble_eq_true rfl) (Nat.le_of_ble_eq_true rfl) dX7_inviteAt_12 () rfl hP hD
set_option maxHeartbeats 4000000 in
set_option maxRecDepth 100000 in
theorem mX7_see (l : Launch) (D : va_G) (cI cJ cZ cR : ClassId) (q q_evening q_evening_told q_text q_reader q_lived q_carpets q_acts q_slots q_slotFilled q_planner q_chances : Nat) (f_textLength : Int32) (f_seedNow : Int64) (f_evening_told : (Nat → Int32)) (x1 : Int32) (x2 : Int32) (rr : Int32) (nf_evening_told : (Nat → Int32)) (hf : pX7_see f_evening_told x1 x2 = some (rr, nf_evening_told)) : gg_M gN vwCl (gg_T cI cJ cZ cR) l D yX7_see wsX7_see ({ frames := 0, cells := 0, slots := 0, locals := 0 } : Room) [.ref q, .int x1, .int x2] [(q, .inr (7, [.ref q_text, .int f_textLength, .ref q_reader, .ref q_lived, .ref q_carpets, .ref q_acts, .ref q_slots, .ref q_slotFilled, .ref q_evening, .ref q_planner, .ref q_chances, .long f_seedNow])), (q_evening, .inr (3, [.ref q_evening_told])), (q_evening_told, .inl (cI, 4, .inl f_evening_told))] (fun _ : Unit => some (.int rr)) (fun _ => [(q, .inr (7, [.ref q_text, .int f_textLength, .ref q_reader, .ref q_lived, .ref q_carpets, .ref q_acts, .ref q_slots, .ref q_slotFilled, .ref q_evening, .ref q_planner, .ref q_chances, .long f_seedNow])), (q_evening, .inr (3, [.ref q_evening_told])), (q_evening_told, .inl (cI, 4, .inl nf_evening_told))]) := by
  refine gg_M.of (cc := cX7_see) (maxL := 4) (rt := (some .int)) (by decide) rfl (Nat.le_of_ble_eq_true rfl) ?_
  intro p e s m below meth c A args Q hQ hx hb hr hml hts hown hlocks hin hA hS hP hK hD ls hl
  replace hown : s.vm.findClass RX7 = some m.cls := hown
  replace hl : lv_has ls 4 [(0, .ref q), (1, .int x1), (2, .int x2)] := hl
  have k57 := (hts (.fieldLink RX7 57 "AbsentCarpets" "evening" "LAbsentCarpets$Evening;") (List.mem_of_getElem? (i := 1) rfl))
  have k209 := (hts (.fieldLink RX7 209 "AbsentCarpets$Evening" "told" "[I") (List.mem_of_getElem? (i := 2) rfl))
  have iX7 : ∀ w ∈ wsX70, w ∈ wsX7_see := fun _ h => List.mem_cons_of_mem _ (List.mem_append_left _ (List.mem_append_right _ (h)))
  have iX3 : ∀ w ∈ wsX30, w ∈ wsX7_see := fun _ h => List.mem_cons_of_mem _ (List.mem_append_right _ (h))
  unfold pX7_see at hf
  refine lv_iload_n hx hb dX7_see_0 rfl (lv_at hl 1 rfl) ?_
  refine lv_if_lt (tgt := 18) hx hb dX7_see_1 (by decide) (fun hc => ?_) (fun hc => ?_)
  · replace hf := gg_pos hf hc
    refine lv_bipush (v := (-2 : Int32)) hx hb dX7_see_18 (by decide) ?_
    cases hf
    rw [hQ]
    exact gg_iret hx hb hr hlocks hS (Nat.le_of_ble_eq_true rfl) (Nat.le_of_ble_eq_true rfl) dX7_see_20 () rfl hP hD
  · replace hf := gg_neg hf hc
    refine lv_iload_n hx hb dX7_see_4 rfl (lv_at hl 1 rfl) ?_
    refine lv_iconst (v := (4 : Int32)) hx hb dX7_see_5 (by decide) ?_
    refine lv_icmp_ge (tgt := 18) hx hb dX7_see_6 (by decide) (fun hc => ?_) (fun hc => ?_)
    · replace hf := gg_pos hf hc
      refine lv_bipush (v := (-2 : Int32)) hx hb dX7_see_18 (by decide) ?_
      cases hf
      rw [hQ]
      exact gg_iret hx hb hr hlocks hS (Nat.le_of_ble_eq_true rfl) (Nat.le_of_ble_eq_true rfl) dX7_see_20 () rfl hP hD
    · replace hf := gg_neg hf hc
      refine lv_iload_n hx hb dX7_see_9 rfl (lv_at hl 2 rfl) ?_
      refine lv_if_lt (tgt := 18) hx hb dX7_see_10 (by decide) (fun hc => ?_) (fun hc => ?_)
      · replace hf := gg_pos hf hc
        refine lv_bipush (v := (-2 : Int32)) hx hb dX7_see_18 (by decide) ?_
        cases hf
        rw [hQ]
        exact gg_iret hx hb hr hlocks hS (Nat.le_of_ble_eq_true rfl) (Nat.le_of_ble_eq_true rfl) dX7_see_20 () rfl hP hD
      · replace hf := gg_neg hf hc
        refine lv_iload_n hx hb dX7_see_13 rfl (lv_at hl 2 rfl) ?_
        refine lv_iconst (v := (5 : Int32)) hx hb dX7_see_14 (by decide) ?_
        refine lv_icmp_le (tgt := 21) hx hb dX7_see_15 (by decide) (fun hc => ?_) (fun hc => ?_)
        · replace hf := gg_pos hf hc
          refine lv_aload_n hx hb dX7_see_21 rfl (lv_at hl 0 rfl) ?_
          refine gg_get hx hb hts iX7 hown hK hP 0 rfl rfl 8 (by decide) k57 rfl rfl dX7_see_22 ?_
          refine gg_get hx hb hts iX3 hown hK hP 1 rfl rfl 0 (by decide) k209 rfl rfl dX7_see_25 ?_
          refine lv_iload_n hx hb dX7_see_28 rfl (lv_at hl 1 rfl) ?_
          refine gg_iald hx hb hK hP 2 0 rfl rfl dX7_see_29 hf (fun hf => ?_)
          refine gg_topi hf (fun v2 hf => ?_)
          refine lv_istore_n (lv' := [(3, .int v2), (0, .ref q), (1, .int x1), (2, .int x2)]) hx hb dX7_see_30 rfl hl (by decide) rfl (fun ls hl => ?_)
          refine lv_aload_n hx hb dX7_see_31 rfl (lv_at hl 1 rfl) ?_
          refine gg_get hx hb hts iX7 hown hK hP 0 rfl rfl 8 (by decide) k57 rfl rfl dX7_see_32 ?_
          refine gg_get hx hb hts iX3 hown hK hP 1 rfl rfl 0 (by decide) k209 rfl rfl dX7_see_35 ?_
          refine lv_iload_n hx hb dX7_see_38 rfl (lv_at hl 2 rfl) ?_
          refine lv_iload_n hx hb dX7_see_39 rfl (lv_at hl 3 rfl) ?_
          refine gg_iast (ws' := fun g3 => [(q, .inr (7, [.ref q_text, .int f_textLength, .ref q_reader, .ref q_lived, .ref q_carpets, .ref q_acts, .ref q_slots, .ref q_slotFilled, .ref q_evening, .ref q_planner, .ref q_chances, .long f_seedNow])), (q_evening, .inr (3, [.ref q_evening_told])), (q_evening_told, .inl (cI, 4, .inl g3))]) hx hb hK hP hD hS 2 0 rfl rfl dX7_see_40 (fun _ => rfl) hf (fun g3 H locs hP hD hS hf => ?_)
          refine lv_iload_n hx hb dX7_see_41 rfl (lv_at hl 0 rfl) ?_
          cases hf
          rw [hQ]
          exact gg_iret hx hb hr hlocks hS (Nat.le_of_ble_eq_true rfl) (Nat.le_of_ble_eq_true rfl) dX7_see_42 () rfl hP hD
        · replace hf := gg_neg hf hc
          refine lv_bipush (v := (-2 : Int32)) hx hb dX7_see_18 (by decide) ?_
          cases hf
          rw [hQ]
          exact gg_iret hx hb hr hlocks hS (Nat.le_of_ble_eq_true rfl) (Nat.le_of_ble_eq_true rfl) dX7_see_20 () rfl hP hD
set_option maxHeartbeats 4000000 in
set_option maxRecDepth 100000 in
theorem mX3_toldColours (l : Launch) (D : va_G) (cI cJ cZ cR : ClassId) (q q_told : Nat) (f_told : (Nat → Int32)) (rr : Int32) (hf : pX3_toldColours f_told = some rr) : gg_M gN vwCl (gg_T cI cJ cZ cR) l D yX3_toldColours wsX3_toldColours ({ frames := 0, cells := 0, slots := 0, locals := 0 } : Room) [.ref q] [(q, .inr (3, [.ref q_told])), (q_told, .inl (cI, 4, .inl f_told))] (fun _ : Unit => some (.int rr)) (fun _ => [(q, .inr (3, [.ref q_told])), (q_told, .inl (cI, 4, .inl f_told))]) := by
  refine gg_M.of (cc := cX3_toldColours) (maxL := 3) (rt := (some .int)) (by decide) rfl (Nat.le_of_ble_eq_true rfl) ?_
  intro p e s m below meth c A args Q hQ hx hb hr hml hts hown hlocks hin hA hS hP hK hD ls hl
  replace hown : s.vm.findClass RX3 = some m.cls := hown
  replace hl : lv_has ls 3 [(0, .ref q)] := hl
  have k9 := (hts (.fieldLink RX3 9 "AbsentCarpets$Evening" "told" "[I") (List.mem_of_getElem? (i := 1) rfl))
  have iX3 : ∀ w ∈ wsX30, w ∈ wsX3_toldColours := fun _ h => List.mem_cons_of_mem _ (List.mem_append_right _ (h))
  have L4 : ∀ (y3 : Int32), (∀ (H : Heap) (locs : List Loc) (ls : Array Slot), va_P D vwCl [(q, .inr (3, [.ref q_told])), (q_told, .inl (cI, 4, .inl f_told))] H → va_D A [(q, .inr (3, [.ref q_told])), (q_told, .inl (cI, 4, .inl f_told))] → va_S A s.heap H locs → lv_has ls 3 [(1, .int y3)] → W p l e ({ frames := 0, cells := 0, slots := 0, locals := 0 } : Room) s m args below meth c H locs 0 0 Q (F0 m 29 ls [])) → ∀ (nlp : Nat) (y1 : Int32) (y2 : Int32), gg_lpF (fun (s : (Int32 × Int32)) => pX3_toldColours_L4 f_told s.1 s.2) nlp (y1, y2) = some y3 → ∀ (H : Heap) (locs : List Loc) (ls : Array Slot), va_P D vwCl [(q, .inr (3, [.ref q_told])), (q_told, .inl (cI, 4, .inl f_told))] H → va_D A [(q, .inr (3, [.ref q_told])), (q_told, .inl (cI, 4, .inl f_told))] → va_S A s.heap H locs → lv_has ls 3 [(0, .ref q), (1, .int y1), (2, .int y2)] → W p l e ({ frames := 0, cells := 0, slots := 0, locals := 0 } : Room) s m args below meth c H locs 0 0 Q (F0 m 4 ls []) := by
    intro y3 hE nlp
    induction nlp with
    | zero => intro y1 y2 hf; cases hf
    | succ nlp ih =>
      intro y1 y2 hf H locs ls hP hD hS hl
      obtain ⟨zz, hz, hzE, hzN⟩ := gg_lpF_x hf
      replace hf : pX3_toldColours_L4 f_told  y1 y2 = some zz := hz
      unfold pX3_toldColours_L4 at hf
      refine lv_iload_n hx hb dX3_toldColours_4 rfl (lv_at hl 2 rfl) ?_
      refine lv_iconst (v := (4 : Int32)) hx hb dX3_toldColours_5 (by decide) ?_
      refine lv_icmp_ge (tgt := 29) hx hb dX3_toldColours_6 (by decide) (fun hc => ?_) (fun hc => ?_)
      · replace hf := gg_pos hf hc
        have hq := hzE _ (Option.some.inj hf).symm
        cases hq
        exact hE _ _ _ hP hD hS (lv_sub hl [1] rfl)
      · replace hf := gg_neg hf hc
        refine lv_aload_n hx hb dX3_toldColours_9 rfl (lv_at hl 0 rfl) ?_
        refine gg_get hx hb hts iX3 hown hK hP 0 rfl rfl 0 (by decide) k9 rfl rfl dX3_toldColours_10 ?_
        refine lv_iload_n hx hb dX3_toldColours_13 rfl (lv_at hl 2 rfl) ?_
        refine gg_iald hx hb hK hP 1 0 rfl rfl dX3_toldColours_14 hf (fun hf => ?_)
        refine lv_bipush (v := (-9 : Int32)) hx hb dX3_toldColours_15 (by decide) ?_
        refine lv_icmp_eq (tgt := 23) hx hb dX3_toldColours_17 (by decide) (fun hc => ?_) (fun hc => ?_)
        · replace hf := gg_pos hf hc
          refine gg_iinc (cst := (1 : Int32)) (k := 2) (lv' := fun v5 => [(2, .int v5), (0, .ref q), (1, .int y1)]) hx hb dX3_toldColours_23 hl rfl (by decide) (by decide) (fun _ => rfl) hf (fun v5 ls hl hf => ?_)
          refine lv_goto (tgt := 4) hx hb dX3_toldColours_26 (by decide) ?_
          exact ih _ _ (hzN _ (Option.some.inj hf).symm) _ _ _ hP hD hS (lv_sub hl [1, 2, 0] rfl)
        · replace hf := gg_neg hf hc
          refine gg_iinc (cst := (1 : Int32)) (k := 1) (lv' := fun v6 => [(1, .int v6), (0, .ref q), (2, .int y2)]) hx hb dX3_toldColours_20 hl rfl (by decide) (by decide) (fun _ => rfl) hf (fun v6 ls hl hf => ?_)
          refine gg_iinc (cst := (1 : Int32)) (k := 2) (lv' := fun v7 => [(2, .int v7), (1, .int v6), (0, .ref q)]) hx hb dX3_toldColours_23 hl rfl (by decide) (by decide) (fun _ => rfl) hf (fun v7 ls hl hf => ?_)
          refine lv_goto (tgt := 4) hx hb dX3_toldColours_26 (by decide) ?_
          exact ih _ _ (hzN _ (Option.some.inj hf).symm) _ _ _ hP hD hS (lv_sub hl [2, 1, 0] rfl)
  unfold pX3_toldColours at hf
  refine lv_iconst (v := (0 : Int32)) hx hb dX3_toldColours_0 (by decide) ?_
  refine lv_istore_n (lv' := [(1, .int (0 : Int32)), (0, .ref q)]) hx hb dX3_toldColours_1 rfl hl (by decide) rfl (fun ls hl => ?_)
  refine lv_iconst (v := (0 : Int32)) hx hb dX3_toldColours_2 (by decide) ?_
  refine lv_istore_n (lv' := [(2, .int (0 : Int32)), (1, .int (0 : Int32)), (0, .ref q)]) hx hb dX3_toldColours_3 rfl hl (by decide) rfl (fun ls hl => ?_)
  obtain ⟨y8, hlp, hf⟩ := gg_c1_x hf
  obtain ⟨nlp, hlp⟩ := gg_lp_x hlp
  refine L4  _ (fun H locs ls hP hD hS hl => ?_) nlp _ _ hlp _ _ _ hP hD hS (lv_sub hl [2, 1, 0] rfl)
  refine lv_iload_n hx hb dX3_toldColours_29 rfl (lv_at hl 0 rfl) ?_
  cases hf
  rw [hQ]
  exact gg_iret hx hb hr hlocks hS (Nat.le_of_ble_eq_true rfl) (Nat.le_of_ble_eq_true rfl) dX3_toldColours_30 () rfl hP hD
set_option maxHeartbeats 4000000 in
set_option maxRecDepth 100000 in
theorem mX3_forget (l : Launch) (D : va_G) (cI cJ cZ cR : ClassId) (q q_told : Nat) (f_told : (Nat → Int32)) (nf_told : (Nat → Int32)) (hf : pX3_forget f_told = some nf_told) : gg_M gN vwCl (gg_T cI cJ cZ cR) l D yX3_forget wsX3_forget ({ frames := 0, cells := 0, slots := 0, locals := 0 } : Room) [.ref q] [(q, .inr (3, [.ref q_told])), (q_told, .inl (cI, 4, .inl f_told))] (fun _ : Unit => none) (fun _ => [(q, .inr (3, [.ref q_told])), (q_told, .inl (cI, 4, .inl nf_told))]) := by
  refine gg_M.of (cc := cX3_forget) (maxL := 2) (rt := none) (by decide) rfl (Nat.le_of_ble_eq_true rfl) ?_
  intro p e s m below meth c A args Q hQ hx hb hr hml hts hown hlocks hin hA hS hP hK hD ls hl
  replace hown : s.vm.findClass RX3 = some m.cls := hown
  replace hl : lv_has ls 2 [(0, .ref q)] := hl
  have k9 := (hts (.fieldLink RX3 9 "AbsentCarpets$Evening" "told" "[I") (List.mem_of_getElem? (i := 1) rfl))
  have iX3 : ∀ w ∈ wsX30, w ∈ wsX3_forget := fun _ h => List.mem_cons_of_mem _ (List.mem_append_right _ (h))
  have L2 : ∀ (w3 : (Nat → Int32)), (∀ (H : Heap) (locs : List Loc) (ls : Array Slot), va_P D vwCl [(q, .inr (3, [.ref q_told])), (q_told, .inl (cI, 4, .inl w3))] H → va_D A [(q, .inr (3, [.ref q_told])), (q_told, .inl (cI, 4, .inl w3))] → va_S A s.heap H locs → lv_has ls 2 [] → W p l e ({ frames := 0, cells := 0, slots := 0, locals := 0 } : Room) s m args below meth c H locs 0 0 Q (F0 m 21 ls [])) → ∀ (nlp : Nat) (w1 : (Nat → Int32)) (y2 : Int32), gg_lpF (fun (s : ((Nat → Int32) × Int32)) => pX3_forget_L2 s.1 s.2) nlp (w1, y2) = some w3 → ∀ (H : Heap) (locs : List Loc) (ls : Array Slot), va_P D vwCl [(q, .inr (3, [.ref q_told])), (q_told, .inl (cI, 4, .inl w1))] H → va_D A [(q, .inr (3, [.ref q_told])), (q_told, .inl (cI, 4, .inl w1))] → va_S A s.heap H locs → lv_has ls 2 [(0, .ref q), (1, .int y2)] → W p l e ({ frames := 0, cells := 0, slots := 0, locals := 0 } : Room) s m args below meth c H locs 0 0 Q (F0 m 2 ls []) := by
    intro w3 hE nlp
    induction nlp with
    | zero => intro w1 y2 hf; cases hf
    | succ nlp ih =>
      intro w1 y2 hf H locs ls hP hD hS hl
      obtain ⟨zz, hz, hzE, hzN⟩ := gg_lpF_x hf
      replace hf : pX3_forget_L2   w1 y2 = some zz := hz
      unfold pX3_forget_L2 at hf
      refine lv_iload_n hx hb dX3_forget_2 rfl (lv_at hl 1 rfl) ?_
      refine lv_iconst (v := (4 : Int32)) hx hb dX3_forget_3 (by decide) ?_
      refine lv_icmp_ge (tgt := 21) hx hb dX3_forget_4 (by decide) (fun hc => ?_) (fun hc => ?_)
      · replace hf := gg_pos hf hc
        have hq := hzE _ (Option.some.inj hf).symm
        cases hq
        exact hE _ _ _ hP hD hS (lv_sub hl [] rfl)
      · replace hf := gg_neg hf hc
        refine lv_aload_n hx hb dX3_forget_7 rfl (lv_at hl 0 rfl) ?_
        refine gg_get hx hb hts iX3 hown hK hP 0 rfl rfl 0 (by decide) k9 rfl rfl dX3_forget_8 ?_
        refine lv_iload_n hx hb dX3_forget_11 rfl (lv_at hl 1 rfl) ?_
        refine lv_bipush (v := (-9 : Int32)) hx hb dX3_forget_12 (by decide) ?_
        refine gg_iast (ws' := fun g4 => [(q, .inr (3, [.ref q_told])), (q_told, .inl (cI, 4, .inl g4))]) hx hb hK hP hD hS 1 0 rfl rfl dX3_forget_14 (fun _ => rfl) hf (fun g4 H locs hP hD hS hf => ?_)
        refine gg_iinc (cst := (1 : Int32)) (k := 1) (lv' := fun v5 => [(1, .int v5), (0, .ref q)]) hx hb dX3_forget_15 hl rfl (by decide) (by decide) (fun _ => rfl) hf (fun v5 ls hl hf => ?_)
        refine lv_goto (tgt := 2) hx hb dX3_forget_18 (by decide) ?_
        exact ih _ _ (hzN _ (Option.some.inj hf).symm) _ _ _ hP hD hS (lv_sub hl [1, 0] rfl)
  unfold pX3_forget at hf
  refine lv_iconst (v := (0 : Int32)) hx hb dX3_forget_0 (by decide) ?_
  refine lv_istore_n (lv' := [(1, .int (0 : Int32)), (0, .ref q)]) hx hb dX3_forget_1 rfl hl (by decide) rfl (fun ls hl => ?_)
  obtain ⟨w6, hlp, hf⟩ := gg_c1_x hf
  obtain ⟨nlp, hlp⟩ := gg_lp_x hlp
  refine L2  _ (fun H locs ls hP hD hS hl => ?_) nlp _ _ hlp _ _ _ hP hD hS (lv_sub hl [1, 0] rfl)
  cases hf
  rw [hQ]
  exact gg_vret hx hb hr hlocks hS (Nat.le_of_ble_eq_true rfl) (Nat.le_of_ble_eq_true rfl) dX3_forget_21 () rfl hP hD
set_option maxHeartbeats 4000000 in
set_option maxRecDepth 100000 in
theorem mX7_unsee (l : Launch) (D : va_G) (cI cJ cZ cR : ClassId) (q q_evening q_evening_told q_text q_reader q_lived q_carpets q_acts q_slots q_slotFilled q_planner q_chances : Nat) (f_textLength : Int32) (f_seedNow : Int64) (f_evening_told : (Nat → Int32)) (rr : Int32) (nf_evening_told : (Nat → Int32)) (hf : pX7_unsee f_evening_told = some (rr, nf_evening_told)) : gg_M gN vwCl (gg_T cI cJ cZ cR) l D yX7_unsee wsX7_unsee ({ frames := 1, cells := 0, slots := 0, locals := 22 } : Room) [.ref q] [(q, .inr (7, [.ref q_text, .int f_textLength, .ref q_reader, .ref q_lived, .ref q_carpets, .ref q_acts, .ref q_slots, .ref q_slotFilled, .ref q_evening, .ref q_planner, .ref q_chances, .long f_seedNow])), (q_evening, .inr (3, [.ref q_evening_told])), (q_evening_told, .inl (cI, 4, .inl f_evening_told))] (fun _ : Unit => some (.int rr)) (fun _ => [(q, .inr (7, [.ref q_text, .int f_textLength, .ref q_reader, .ref q_lived, .ref q_carpets, .ref q_acts, .ref q_slots, .ref q_slotFilled, .ref q_evening, .ref q_planner, .ref q_chances, .long f_seedNow])), (q_evening, .inr (3, [.ref q_evening_told])), (q_evening_told, .inl (cI, 4, .inl nf_evening_told))]) := by
  refine gg_M.of (cc := cX7_unsee) (maxL := 2) (rt := (some .int)) (by decide) rfl (Nat.le_of_ble_eq_true rfl) ?_
  intro p e s m below meth c A args Q hQ hx hb hr hml hts hown hlocks hin hA hS hP hK hD ls hl
  replace hown : s.vm.findClass RX7 = some m.cls := hown
  replace hl : lv_has ls 2 [(0, .ref q)] := hl
  have k57 := (hts (.fieldLink RX7 57 "AbsentCarpets" "evening" "LAbsentCarpets$Evening;") (List.mem_of_getElem? (i := 1) rfl))
  have iX7 : ∀ w ∈ wsX70, w ∈ wsX7_unsee := fun _ h => List.mem_cons_of_mem _ (List.mem_append_left _ (List.mem_append_right _ (h)))
  unfold pX7_unsee at hf
  refine lv_aload_n hx hb dX7_unsee_0 rfl (lv_at hl 0 rfl) ?_
  refine gg_get hx hb hts iX7 hown hK hP 0 rfl rfl 8 (by decide) k57 rfl rfl dX7_unsee_1 ?_
  obtain ⟨r1, hu, hf⟩ := gg_c1_x hf
  refine gg_callV (wr := [(q, .inr (7, [.ref q_text, .int f_textLength, .ref q_reader, .ref q_lived, .ref q_carpets, .ref q_acts, .ref q_slots, .ref q_slotFilled, .ref q_evening, .ref q_planner, .ref q_chances, .long f_seedNow]))]) (w2 := fun _ => [(q, .inr (7, [.ref q_text, .int f_textLength, .ref q_reader, .ref q_lived, .ref q_carpets, .ref q_acts, .ref q_slots, .ref q_slotFilled, .ref q_evening, .ref q_planner, .ref q_chances, .long f_seedNow])), (q_evening, .inr (3, [.ref q_evening_told])), (q_evening_told, .inl (cI, 4, .inl f_evening_told))]) ⟨hx, hb, hml, hown, hts⟩ (mX3_toldColours l D cI cJ cZ cR q_evening q_evening_told f_evening_told  r1 hu) (cwV 0 hts gX7_unsee_X3_toldColours rfl rfl rfl (by decide +kernel) ⟨Nat.le_of_ble_eq_true rfl, Nat.le_of_ble_eq_true rfl⟩) hK hP hD hS hA 1 rfl rfl rfl rfl hl.1 rfl (Nat.le_of_ble_eq_true rfl) dX7_unsee_4 ⟨Nat.le_of_ble_eq_true rfl, Nat.le_of_ble_eq_true rfl⟩ [1, 2] [0] rfl rfl rfl rfl rfl [0, 1, 2] rfl (fun _ => rfl) (fun _ H locs hP hD hS => ?_)
  refine gg_st_i ?_
  refine lv_istore_n (lv' := [(1, .int r1), (0, .ref q)]) hx hb dX7_unsee_7 rfl hl (by decide) rfl (fun ls hl => ?_)
  refine lv_aload_n hx hb dX7_unsee_8 rfl (lv_at hl 1 rfl) ?_
  refine gg_get hx hb hts iX7 hown hK hP 0 rfl rfl 8 (by decide) k57 rfl rfl dX7_unsee_9 ?_
  obtain ⟨u2, hu, hf⟩ := gg_c1_x hf
  refine gg_callV (wr := [(q, .inr (7, [.ref q_text, .int f_textLength, .ref q_reader, .ref q_lived, .ref q_carpets, .ref q_acts, .ref q_slots, .ref q_slotFilled, .ref q_evening, .ref q_planner, .ref q_chances, .long f_seedNow]))]) (w2 := fun _ => [(q, .inr (7, [.ref q_text, .int f_textLength, .ref q_reader, .ref q_lived, .ref q_carpets, .ref q_acts, .ref q_slots, .ref q_slotFilled, .ref q_evening, .ref q_planner, .ref q_chances, .long f_seedNow])), (q_evening, .inr (3, [.ref q_evening_told])), (q_evening_told, .inl (cI, 4, .inl u2))]) ⟨hx, hb, hml, hown, hts⟩ (mX3_forget l D cI cJ cZ cR q_evening q_evening_told f_evening_told  u2 hu) (cwV 0 hts gX7_unsee_X3_forget rfl rfl rfl (by decide +kernel) ⟨Nat.le_of_ble_eq_true rfl, Nat.le_of_ble_eq_true rfl⟩) hK hP hD hS hA 1 rfl rfl rfl rfl hl.1 rfl (Nat.le_of_ble_eq_true rfl) dX7_unsee_12 ⟨Nat.le_of_ble_eq_true rfl, Nat.le_of_ble_eq_true rfl⟩ [1, 2] [0] rfl rfl rfl rfl rfl [0, 1, 2] rfl (fun _ => rfl) (fun _ H locs hP hD hS => ?_)
  refine gg_st_v ?_
  refine lv_iload_n hx hb dX7_unsee_15 rfl (lv_at hl 0 rfl) ?_
  cases hf
  rw [hQ]
  exact gg_iret hx hb hr hlocks hS (Nat.le_of_ble_eq_true rfl) (Nat.le_of_ble_eq_true rfl) dX7_unsee_16 () rfl hP hD
set_option maxHeartbeats 4000000 in
set_option maxRecDepth 100000 in
theorem mX3_wovenOf (l : Launch) (D : va_G) (cI cJ cZ cR : ClassId) (q_p0 q_p0_colourOf q_p0_needs q_p0_roomOf q_p0_grudgeOf q_p0_tenthsOf q_p0_quarrelOf : Nat) (f_p0_rooms : Int32) (f_p0_people : Int32) (f_p0_quarrels : Int32) (f_p0_colourOf : (Nat → Int32)) (x1 : Int32) (x2 : Int32) (rr : Int32) (hf : pX3_wovenOf f_p0_people f_p0_colourOf x1 x2 = some rr) : gg_M gN vwCl (gg_T cI cJ cZ cR) l D yX3_wovenOf wsX3_wovenOf ({ frames := 0, cells := 0, slots := 0, locals := 0 } : Room) [.ref q_p0, .int x1, .int x2] [(q_p0, .inr (4, [.int f_p0_rooms, .int f_p0_people, .int f_p0_quarrels, .ref q_p0_needs, .ref q_p0_roomOf, .ref q_p0_colourOf, .ref q_p0_grudgeOf, .ref q_p0_tenthsOf, .ref q_p0_quarrelOf])), (q_p0_colourOf, .inl (cI, 5, .inl f_p0_colourOf))] (fun _ : Unit => some (.int rr)) (fun _ => [(q_p0, .inr (4, [.int f_p0_rooms, .int f_p0_people, .int f_p0_quarrels, .ref q_p0_needs, .ref q_p0_roomOf, .ref q_p0_colourOf, .ref q_p0_grudgeOf, .ref q_p0_tenthsOf, .ref q_p0_quarrelOf])), (q_p0_colourOf, .inl (cI, 5, .inl f_p0_colourOf))]) := by
  refine gg_M.of (cc := cX3_wovenOf) (maxL := 5) (rt := (some .int)) (by decide) rfl (Nat.le_of_ble_eq_true rfl) ?_
  intro p e s m below meth c A args Q hQ hx hb hr hml hts hown hlocks hin hA hS hP hK hD ls hl
  replace hown : s.vm.findClass RX3 = some m.cls := hown
  replace hl : lv_has ls 5 [(0, .ref q_p0), (1, .int x1), (2, .int x2)] := hl
  have k29 := (hts (.fieldLink RX3 29 "AbsentCarpets$House" "people" "I") (List.mem_of_getElem? (i := 1) rfl))
  have k33 := (hts (.fieldLink RX3 33 "AbsentCarpets$House" "colourOf" "[I") (List.mem_of_getElem? (i := 2) rfl))
  have iX4 : ∀ w ∈ wsX40, w ∈ wsX3_wovenOf := fun _ h => List.mem_cons_of_mem _ (List.mem_append_right _ (h))
  have L5 : ∀ (y1 : Int32) (y2 : Int32) (y5 : Int32), (∀ (H : Heap) (locs : List Loc) (ls : Array Slot), va_P D vwCl [(q_p0, .inr (4, [.int f_p0_rooms, .int f_p0_people, .int f_p0_quarrels, .ref q_p0_needs, .ref q_p0_roomOf, .ref q_p0_colourOf, .ref q_p0_grudgeOf, .ref q_p0_tenthsOf, .ref q_p0_quarrelOf])), (q_p0_colourOf, .inl (cI, 5, .inl f_p0_colourOf))] H → va_D A [(q_p0, .inr (4, [.int f_p0_rooms, .int f_p0_people, .int f_p0_quarrels, .ref q_p0_needs, .ref q_p0_roomOf, .ref q_p0_colourOf, .ref q_p0_grudgeOf, .ref q_p0_tenthsOf, .ref q_p0_quarrelOf])), (q_p0_colourOf, .inl (cI, 5, .inl f_p0_colourOf))] → va_S A s.heap H locs → lv_has ls 5 [(3, .int y5)] → W p l e ({ frames := 0, cells := 0, slots := 0, locals := 0 } : Room) s m args below meth c H locs 0 0 Q (F0 m 40 ls [])) → ∀ (nlp : Nat) (y3 : Int32) (y4 : Int32), gg_lpF (fun (s : (Int32 × Int32)) => pX3_wovenOf_L5 f_p0_people f_p0_colourOf y1 y2 s.1 s.2) nlp (y3, y4) = some y5 → ∀ (H : Heap) (locs : List Loc) (ls : Array Slot), va_P D vwCl [(q_p0, .inr (4, [.int f_p0_rooms, .int f_p0_people, .int f_p0_quarrels, .ref q_p0_needs, .ref q_p0_roomOf, .ref q_p0_colourOf, .ref q_p0_grudgeOf, .ref q_p0_tenthsOf, .ref q_p0_quarrelOf])), (q_p0_colourOf, .inl (cI, 5, .inl f_p0_colourOf))] H → va_D A [(q_p0, .inr (4, [.int f_p0_rooms, .int f_p0_people, .int f_p0_quarrels, .ref q_p0_needs, .ref q_p0_roomOf, .ref q_p0_colourOf, .ref q_p0_grudgeOf, .ref q_p0_tenthsOf, .ref q_p0_quarrelOf])), (q_p0_colourOf, .inl (cI, 5, .inl f_p0_colourOf))] → va_S A s.heap H locs → lv_has ls 5 [(0, .ref q_p0), (1, .int y1), (2, .int y2), (3, .int y3), (4, .int y4)] → W p l e ({ frames := 0, cells := 0, slots := 0, locals := 0 } : Room) s m args below meth c H locs 0 0 Q (F0 m 5 ls []) := by
    intro y1 y2 y5 hE nlp
    induction nlp with
    | zero => intro y3 y4 hf; cases hf
    | succ nlp ih =>
      intro y3 y4 hf H locs ls hP hD hS hl
      obtain ⟨zz, hz, hzE, hzN⟩ := gg_lpF_x hf
      replace hf : pX3_wovenOf_L5 f_p0_people f_p0_colourOf y1 y2 y3 y4 = some zz := hz
      unfold pX3_wovenOf_L5 at hf
      refine lv_iload hx hb dX3_wovenOf_5 (lv_at hl 4 rfl) ?_
      refine lv_aload_n hx hb dX3_wovenOf_7 rfl (lv_at hl 0 rfl) ?_
      refine gg_get hx hb hts iX4 hown hK hP 0 rfl rfl 1 (by decide) k29 rfl rfl dX3_wovenOf_8 ?_
      refine lv_icmp_ge (tgt := 40) hx hb dX3_wovenOf_11 (by decide) (fun hc => ?_) (fun hc => ?_)
      · replace hf := gg_pos hf hc
        have hq := hzE _ (Option.some.inj hf).symm
        cases hq
        exact hE _ _ _ hP hD hS (lv_sub hl [3] rfl)
      · replace hf := gg_neg hf hc
        refine lv_aload_n hx hb dX3_wovenOf_14 rfl (lv_at hl 0 rfl) ?_
        refine gg_get hx hb hts iX4 hown hK hP 0 rfl rfl 5 (by decide) k33 rfl rfl dX3_wovenOf_15 ?_
        refine lv_iload hx hb dX3_wovenOf_18 (lv_at hl 4 rfl) ?_
        refine gg_iald hx hb hK hP 1 0 rfl rfl dX3_wovenOf_20 hf (fun hf => ?_)
        refine lv_iload_n hx hb dX3_wovenOf_21 rfl (lv_at hl 2 rfl) ?_
        refine lv_icmp_ne (tgt := 34) hx hb dX3_wovenOf_22 (by decide) (fun hc => ?_) (fun hc => ?_)
        · replace hf := gg_neg hf hc
          refine gg_iinc (cst := (1 : Int32)) (k := 4) (lv' := fun v7 => [(4, .int v7), (0, .ref q_p0), (1, .int y1), (2, .int y2), (3, .int y3)]) hx hb dX3_wovenOf_34 hl rfl (by decide) (by decide) (fun _ => rfl) hf (fun v7 ls hl hf => ?_)
          refine lv_goto (tgt := 5) hx hb dX3_wovenOf_37 (by decide) ?_
          exact ih _ _ (hzN _ (Option.some.inj hf).symm) _ _ _ hP hD hS (lv_sub hl [1, 2, 3, 4, 0] rfl)
        · replace hf := gg_pos hf hc
          refine lv_iload_n hx hb dX3_wovenOf_25 rfl (lv_at hl 3 rfl) ?_
          refine lv_iload_n hx hb dX3_wovenOf_26 rfl (lv_at hl 1 rfl) ?_
          refine lv_iload hx hb dX3_wovenOf_27 (lv_at hl 4 rfl) ?_
          refine lv_ishr hx hb dX3_wovenOf_29 ?_
          refine lv_iconst (v := (1 : Int32)) hx hb dX3_wovenOf_30 (by decide) ?_
          refine lv_iand hx hb dX3_wovenOf_31 ?_
          refine lv_iadd hx hb dX3_wovenOf_32 ?_
          refine gg_topi hf (fun v8 hf => ?_)
          refine lv_istore_n (lv' := [(3, .int v8), (0, .ref q_p0), (1, .int y1), (2, .int y2), (4, .int y4)]) hx hb dX3_wovenOf_33 rfl hl (by decide) rfl (fun ls hl => ?_)
          refine gg_iinc (cst := (1 : Int32)) (k := 4) (lv' := fun v9 => [(4, .int v9), (3, .int v8), (0, .ref q_p0), (1, .int y1), (2, .int y2)]) hx hb dX3_wovenOf_34 hl rfl (by decide) (by decide) (fun _ => rfl) hf (fun v9 ls hl hf => ?_)
          refine lv_goto (tgt := 5) hx hb dX3_wovenOf_37 (by decide) ?_
          exact ih _ _ (hzN _ (Option.some.inj hf).symm) _ _ _ hP hD hS (lv_sub hl [2, 3, 4, 1, 0] rfl)
  unfold pX3_wovenOf at hf
  refine lv_iconst (v := (0 : Int32)) hx hb dX3_wovenOf_0 (by decide) ?_
  refine lv_istore_n (lv' := [(3, .int (0 : Int32)), (0, .ref q_p0), (1, .int x1), (2, .int x2)]) hx hb dX3_wovenOf_1 rfl hl (by decide) rfl (fun ls hl => ?_)
  refine lv_iconst (v := (0 : Int32)) hx hb dX3_wovenOf_2 (by decide) ?_
  refine lv_istore (lv' := [(4, .int (0 : Int32)), (3, .int (0 : Int32)), (0, .ref q_p0), (1, .int x1), (2, .int x2)]) hx hb dX3_wovenOf_3 hl (by decide) rfl (fun ls hl => ?_)
  obtain ⟨y10, hlp, hf⟩ := gg_c1_x hf
  obtain ⟨nlp, hlp⟩ := gg_lp_x hlp
  refine L5 _ _ _ (fun H locs ls hP hD hS hl => ?_) nlp _ _ hlp _ _ _ hP hD hS (lv_sub hl [2, 3, 4, 1, 0] rfl)
  refine lv_iload_n hx hb dX3_wovenOf_40 rfl (lv_at hl 0 rfl) ?_
  cases hf
  rw [hQ]
  exact gg_iret hx hb hr hlocks hS (Nat.le_of_ble_eq_true rfl) (Nat.le_of_ble_eq_true rfl) dX3_wovenOf_41 () rfl hP hD
set_option maxHeartbeats 4000000 in
set_option maxRecDepth 100000 in
theorem mX3_fits (l : Launch) (D : va_G) (cI cJ cZ cR : ClassId) (q q_told q_p1 q_p1_colourOf q_p1_needs q_p1_roomOf q_p1_grudgeOf q_p1_tenthsOf q_p1_quarrelOf : Nat) (f_told : (Nat → Int32)) (f_p1_rooms : Int32) (f_p1_people : Int32) (f_p1_quarrels : Int32) (f_p1_colourOf : (Nat → Int32)) (x2 : Int32) (rr : Int32) (hf : pX3_fits f_told f_p1_people f_p1_colourOf x2 = some rr) : gg_M gN vwCl (gg_T cI cJ cZ cR) l D yX3_fits wsX3_fits ({ frames := 1, cells := 0, slots := 0, locals := 24 } : Room) [.ref q, .ref q_p1, .int x2] [(q, .inr (3, [.ref q_told])), (q_told, .inl (cI, 4, .inl f_told)), (q_p1, .inr (4, [.int f_p1_rooms, .int f_p1_people, .int f_p1_quarrels, .ref q_p1_needs, .ref q_p1_roomOf, .ref q_p1_colourOf, .ref q_p1_grudgeOf, .ref q_p1_tenthsOf, .ref q_p1_quarrelOf])), (q_p1_colourOf, .inl (cI, 5, .inl f_p1_colourOf))] (fun _ : Unit => some (.int rr)) (fun _ => [(q, .inr (3, [.ref q_told])), (q_told, .inl (cI, 4, .inl f_told)), (q_p1, .inr (4, [.int f_p1_rooms, .int f_p1_people, .int f_p1_quarrels, .ref q_p1_needs, .ref q_p1_roomOf, .ref q_p1_colourOf, .ref q_p1_grudgeOf, .ref q_p1_tenthsOf, .ref q_p1_quarrelOf])), (q_p1_colourOf, .inl (cI, 5, .inl f_p1_colourOf))]) := by
  refine gg_M.of (cc := cX3_fits) (maxL := 4) (rt := (some .boolean)) (by decide) rfl (Nat.le_of_ble_eq_true rfl) ?_
  intro p e s m below meth c A args Q hQ hx hb hr hml hts hown hlocks hin hA hS hP hK hD ls hl
  replace hown : s.vm.findClass RX3 = some m.cls := hown
  replace hl : lv_has ls 4 [(0, .ref q), (1, .ref q_p1), (2, .int x2)] := hl
  have k9 := (hts (.fieldLink RX3 9 "AbsentCarpets$Evening" "told" "[I") (List.mem_of_getElem? (i := 1) rfl))
  have iX3 : ∀ w ∈ wsX30, w ∈ wsX3_fits := fun _ h => List.mem_cons_of_mem _ (List.mem_append_left _ (List.mem_append_right _ (h)))
  have L2 : ∀ (y1 : Int32) (zr : ((Unit) ⊕ (Unit))), (∀ (u0 : Unit), zr = (.inl u0) → ∀ (H : Heap) (locs : List Loc) (ls : Array Slot), va_P D vwCl [(q, .inr (3, [.ref q_told])), (q_told, .inl (cI, 4, .inl f_told)), (q_p1, .inr (4, [.int f_p1_rooms, .int f_p1_people, .int f_p1_quarrels, .ref q_p1_needs, .ref q_p1_roomOf, .ref q_p1_colourOf, .ref q_p1_grudgeOf, .ref q_p1_tenthsOf, .ref q_p1_quarrelOf])), (q_p1_colourOf, .inl (cI, 5, .inl f_p1_colourOf))] H → va_D A [(q, .inr (3, [.ref q_told])), (q_told, .inl (cI, 4, .inl f_told)), (q_p1, .inr (4, [.int f_p1_rooms, .int f_p1_people, .int f_p1_quarrels, .ref q_p1_needs, .ref q_p1_roomOf, .ref q_p1_colourOf, .ref q_p1_grudgeOf, .ref q_p1_tenthsOf, .ref q_p1_quarrelOf])), (q_p1_colourOf, .inl (cI, 5, .inl f_p1_colourOf))] → va_S A s.heap H locs → lv_has ls 4 [] → W p l e ({ frames := 1, cells := 0, slots := 0, locals := 24 } : Room) s m args below meth c H locs 0 0 Q (F0 m 33 ls [])) → (∀ (u0 : Unit), zr = (.inr (u0)) → ∀ (H : Heap) (locs : List Loc) (ls : Array Slot), va_P D vwCl [(q, .inr (3, [.ref q_told])), (q_told, .inl (cI, 4, .inl f_told)), (q_p1, .inr (4, [.int f_p1_rooms, .int f_p1_people, .int f_p1_quarrels, .ref q_p1_needs, .ref q_p1_roomOf, .ref q_p1_colourOf, .ref q_p1_grudgeOf, .ref q_p1_tenthsOf, .ref q_p1_quarrelOf])), (q_p1_colourOf, .inl (cI, 5, .inl f_p1_colourOf))] H → va_D A [(q, .inr (3, [.ref q_told])), (q_told, .inl (cI, 4, .inl f_told)), (q_p1, .inr (4, [.int f_p1_rooms, .int f_p1_people, .int f_p1_quarrels, .ref q_p1_needs, .ref q_p1_roomOf, .ref q_p1_colourOf, .ref q_p1_grudgeOf, .ref q_p1_tenthsOf, .ref q_p1_quarrelOf])), (q_p1_colourOf, .inl (cI, 5, .inl f_p1_colourOf))] → va_S A s.heap H locs → lv_has ls 4 [] → W p l e ({ frames := 1, cells := 0, slots := 0, locals := 24 } : Room) s m args below meth c H locs 0 0 Q (F0 m 41 ls [])) → ∀ (nlp : Nat) (y2 : Int32), gg_lpF (fun (s : (Int32)) => pX3_fits_L2 f_told f_p1_people f_p1_colourOf y1 s) nlp y2 = some zr → ∀ (H : Heap) (locs : List Loc) (ls : Array Slot), va_P D vwCl [(q, .inr (3, [.ref q_told])), (q_told, .inl (cI, 4, .inl f_told)), (q_p1, .inr (4, [.int f_p1_rooms, .int f_p1_people, .int f_p1_quarrels, .ref q_p1_needs, .ref q_p1_roomOf, .ref q_p1_colourOf, .ref q_p1_grudgeOf, .ref q_p1_tenthsOf, .ref q_p1_quarrelOf])), (q_p1_colourOf, .inl (cI, 5, .inl f_p1_colourOf))] H → va_D A [(q, .inr (3, [.ref q_told])), (q_told, .inl (cI, 4, .inl f_told)), (q_p1, .inr (4, [.int f_p1_rooms, .int f_p1_people, .int f_p1_quarrels, .ref q_p1_needs, .ref q_p1_roomOf, .ref q_p1_colourOf, .ref q_p1_grudgeOf, .ref q_p1_tenthsOf, .ref q_p1_quarrelOf])), (q_p1_colourOf, .inl (cI, 5, .inl f_p1_colourOf))] → va_S A s.heap H locs → lv_has ls 4 [(0, .ref q), (1, .ref q_p1), (2, .int y1), (3, .int y2)] → W p l e ({ frames := 1, cells := 0, slots := 0, locals := 24 } : Room) s m args below meth c H locs 0 0 Q (F0 m 2 ls []) := by
    intro y1 zr hE0 hE1 nlp
    induction nlp with
    | zero => intro y2 hf; cases hf
    | succ nlp ih =>
      intro y2 hf H locs ls hP hD hS hl
      obtain ⟨zz, hz, hzE, hzN⟩ := gg_lpF_x hf
      replace hf : pX3_fits_L2 f_told f_p1_people f_p1_colourOf y1 y2 = some zz := hz
      unfold pX3_fits_L2 at hf
      refine lv_iload_n hx hb dX3_fits_2 rfl (lv_at hl 3 rfl) ?_
      refine lv_iconst (v := (4 : Int32)) hx hb dX3_fits_3 (by decide) ?_
      refine lv_icmp_ge (tgt := 41) hx hb dX3_fits_4 (by decide) (fun hc => ?_) (fun hc => ?_)
      · replace hf := gg_pos hf hc
        have hq := hzE _ (Option.some.inj hf).symm
        exact hE1 _ hq _ _ _ hP hD hS (lv_sub hl [] rfl)
      · replace hf := gg_neg hf hc
        refine lv_aload_n hx hb dX3_fits_7 rfl (lv_at hl 0 rfl) ?_
        refine gg_get hx hb hts iX3 hown hK hP 0 rfl rfl 0 (by decide) k9 rfl rfl dX3_fits_8 ?_
        refine lv_iload_n hx hb dX3_fits_11 rfl (lv_at hl 3 rfl) ?_
        refine gg_iald hx hb hK hP 1 0 rfl rfl dX3_fits_12 hf (fun hf => ?_)
        refine lv_bipush (v := (-9 : Int32)) hx hb dX3_fits_13 (by decide) ?_
        refine lv_icmp_eq (tgt := 35) hx hb dX3_fits_15 (by decide) (fun hc => ?_) (fun hc => ?_)
        · replace hf := gg_pos hf hc
          refine gg_iinc (cst := (1 : Int32)) (k := 3) (lv' := fun v4 => [(3, .int v4), (0, .ref q), (1, .ref q_p1), (2, .int y1)]) hx hb dX3_fits_35 hl rfl (by decide) (by decide) (fun _ => rfl) hf (fun v4 ls hl hf => ?_)
          refine lv_goto (tgt := 2) hx hb dX3_fits_38 (by decide) ?_
          exact ih _ (hzN _ (Option.some.inj hf).symm) _ _ _ hP hD hS (lv_sub hl [1, 2, 3, 0] rfl)
        · replace hf := gg_neg hf hc
          refine lv_aload_n hx hb dX3_fits_18 rfl (lv_at hl 0 rfl) ?_
          refine gg_get hx hb hts iX3 hown hK hP 0 rfl rfl 0 (by decide) k9 rfl rfl dX3_fits_19 ?_
          refine lv_iload_n hx hb dX3_fits_22 rfl (lv_at hl 3 rfl) ?_
          refine gg_iald hx hb hK hP 1 0 rfl rfl dX3_fits_23 hf (fun hf => ?_)
          refine lv_aload_n hx hb dX3_fits_24 rfl (lv_at hl 1 rfl) ?_
          refine lv_iload_n hx hb dX3_fits_25 rfl (lv_at hl 2 rfl) ?_
          refine lv_iload_n hx hb dX3_fits_26 rfl (lv_at hl 3 rfl) ?_
          obtain ⟨r6, hu, hf⟩ := gg_c1_x hf
          refine gg_callS (wr := [(q, .inr (3, [.ref q_told])), (q_told, .inl (cI, 4, .inl f_told))]) (w2 := fun _ => [(q, .inr (3, [.ref q_told])), (q_told, .inl (cI, 4, .inl f_told)), (q_p1, .inr (4, [.int f_p1_rooms, .int f_p1_people, .int f_p1_quarrels, .ref q_p1_needs, .ref q_p1_roomOf, .ref q_p1_colourOf, .ref q_p1_grudgeOf, .ref q_p1_tenthsOf, .ref q_p1_quarrelOf])), (q_p1_colourOf, .inl (cI, 5, .inl f_p1_colourOf))]) ⟨hx, hb, hml, hown, hts⟩ (mX3_wovenOf l D cI cJ cZ cR q_p1 q_p1_colourOf q_p1_needs q_p1_roomOf q_p1_grudgeOf q_p1_tenthsOf q_p1_quarrelOf f_p1_rooms f_p1_people f_p1_quarrels f_p1_colourOf _ _ r6 hu) (va_cwS 3 hts gX3_fits_X3_wovenOf rfl rfl rfl (by decide +kernel) ⟨Nat.le_of_ble_eq_true rfl, Nat.le_of_ble_eq_true rfl⟩) hK hP hD hS hA rfl hl.1 rfl (Nat.le_of_ble_eq_true rfl) dX3_fits_27 ⟨Nat.le_of_ble_eq_true rfl, Nat.le_of_ble_eq_true rfl⟩ [2, 3] [0, 1] rfl rfl rfl rfl rfl [0, 1, 2, 3] rfl (fun _ => rfl) (fun _ H locs hP hD hS => ?_)
          refine gg_st_i ?_
          refine lv_icmp_eq (tgt := 35) hx hb dX3_fits_30 (by decide) (fun hc => ?_) (fun hc => ?_)
          · replace hf := gg_pos hf hc
            refine gg_iinc (cst := (1 : Int32)) (k := 3) (lv' := fun v7 => [(3, .int v7), (0, .ref q), (1, .ref q_p1), (2, .int y1)]) hx hb dX3_fits_35 hl rfl (by decide) (by decide) (fun _ => rfl) hf (fun v7 ls hl hf => ?_)
            refine lv_goto (tgt := 2) hx hb dX3_fits_38 (by decide) ?_
            exact ih _ (hzN _ (Option.some.inj hf).symm) _ _ _ hP hD hS (lv_sub hl [1, 2, 3, 0] rfl)
          · replace hf := gg_neg hf hc
            have hq := hzE _ (Option.some.inj hf).symm
            exact hE0 _ hq _ _ _ hP hD hS (lv_sub hl [] rfl)
  unfold pX3_fits at hf
  refine lv_iconst (v := (0 : Int32)) hx hb dX3_fits_0 (by decide) ?_
  refine lv_istore_n (lv' := [(3, .int (0 : Int32)), (0, .ref q), (1, .ref q_p1), (2, .int x2)]) hx hb dX3_fits_1 rfl hl (by decide) rfl (fun ls hl => ?_)
  obtain ⟨z8, hlp, hf⟩ := gg_c1_x hf
  obtain ⟨nlp, hlp⟩ := gg_lp_x hlp
  refine L2 _ z8 ?_ ?_ nlp _ hlp _ _ _ hP hD hS (lv_sub hl [1, 2, 3, 0] rfl)
  · intro u0 hz H locs ls hP hD hS hl
    rw [hz] at hf
    replace hf := gg_cu_lx hf
    obtain ⟨u1, hq, hf⟩ := gg_c1_x hf
    cases hq
    refine lv_iconst (v := (0 : Int32)) hx hb dX3_fits_33 (by decide) ?_
    obtain ⟨hz, hf⟩ := gg_bool_x hf
    cases hf
    rw [hQ]
    exact gg_zret hx hb hr hlocks hS (Nat.le_of_ble_eq_true rfl) (Nat.le_of_ble_eq_true rfl) dX3_fits_34 hz () rfl hP hD
  · intro u0 hz H locs ls hP hD hS hl
    rw [hz] at hf
    replace hf := gg_cu_rx hf
    obtain ⟨u1, hq, hf⟩ := gg_c1_x hf
    cases hq
    refine lv_iconst (v := (1 : Int32)) hx hb dX3_fits_41 (by decide) ?_
    obtain ⟨hz, hf⟩ := gg_bool_x hf
    cases hf
    rw [hQ]
    exact gg_zret hx hb hr hlocks hS (Nat.le_of_ble_eq_true rfl) (Nat.le_of_ble_eq_true rfl) dX3_fits_42 hz () rfl hP hD
set_option maxHeartbeats 4000000 in
set_option maxRecDepth 100000 in
theorem mX3_setsThatFit (l : Launch) (D : va_G) (cI cJ cZ cR : ClassId) (q q_told q_p1 q_p1_colourOf q_p1_needs q_p1_roomOf q_p1_grudgeOf q_p1_tenthsOf q_p1_quarrelOf : Nat) (f_told : (Nat → Int32)) (f_p1_rooms : Int32) (f_p1_people : Int32) (f_p1_quarrels : Int32) (f_p1_colourOf : (Nat → Int32)) (rr : Int32) (hf : pX3_setsThatFit f_told f_p1_people f_p1_colourOf = some rr) : gg_M gN vwCl (gg_T cI cJ cZ cR) l D yX3_setsThatFit wsX3_setsThatFit ({ frames := 2, cells := 0, slots := 0, locals := 47 } : Room) [.ref q, .ref q_p1] [(q, .inr (3, [.ref q_told])), (q_told, .inl (cI, 4, .inl f_told)), (q_p1, .inr (4, [.int f_p1_rooms, .int f_p1_people, .int f_p1_quarrels, .ref q_p1_needs, .ref q_p1_roomOf, .ref q_p1_colourOf, .ref q_p1_grudgeOf, .ref q_p1_tenthsOf, .ref q_p1_quarrelOf])), (q_p1_colourOf, .inl (cI, 5, .inl f_p1_colourOf))] (fun _ : Unit => some (.int rr)) (fun _ => [(q, .inr (3, [.ref q_told])), (q_told, .inl (cI, 4, .inl f_told)), (q_p1, .inr (4, [.int f_p1_rooms, .int f_p1_people, .int f_p1_quarrels, .ref q_p1_needs, .ref q_p1_roomOf, .ref q_p1_colourOf, .ref q_p1_grudgeOf, .ref q_p1_tenthsOf, .ref q_p1_quarrelOf])), (q_p1_colourOf, .inl (cI, 5, .inl f_p1_colourOf))]) := by
  refine gg_M.of (cc := cX3_setsThatFit) (maxL := 5) (rt := (some .int)) (by decide) rfl (Nat.le_of_ble_eq_true rfl) ?_
  intro p e s m below meth c A args Q hQ hx hb hr hml hts hown hlocks hin hA hS hP hK hD ls hl
  replace hown : s.vm.findClass RX3 = some m.cls := hown
  replace hl : lv_has ls 5 [(0, .ref q), (1, .ref q_p1)] := hl
  have L10 : ∀ (y2 : Int32) (y5 : Int32), (∀ (H : Heap) (locs : List Loc) (ls : Array Slot), va_P D vwCl [(q, .inr (3, [.ref q_told])), (q_told, .inl (cI, 4, .inl f_told)), (q_p1, .inr (4, [.int f_p1_rooms, .int f_p1_people, .int f_p1_quarrels, .ref q_p1_needs, .ref q_p1_roomOf, .ref q_p1_colourOf, .ref q_p1_grudgeOf, .ref q_p1_tenthsOf, .ref q_p1_quarrelOf])), (q_p1_colourOf, .inl (cI, 5, .inl f_p1_colourOf))] H → va_D A [(q, .inr (3, [.ref q_told])), (q_told, .inl (cI, 4, .inl f_told)), (q_p1, .inr (4, [.int f_p1_rooms, .int f_p1_people, .int f_p1_quarrels, .ref q_p1_needs, .ref q_p1_roomOf, .ref q_p1_colourOf, .ref q_p1_grudgeOf, .ref q_p1_tenthsOf, .ref q_p1_quarrelOf])), (q_p1_colourOf, .inl (cI, 5, .inl f_p1_colourOf))] → va_S A s.heap H locs → lv_has ls 5 [(2, .int y5)] → W p l e ({ frames := 2, cells := 0, slots := 0, locals := 47 } : Room) s m args below meth c H locs 0 0 Q (F0 m 35 ls [])) → ∀ (nlp : Nat) (y3 : Int32) (y4 : Int32), gg_lpF (fun (s : (Int32 × Int32)) => pX3_setsThatFit_L10 f_told f_p1_people f_p1_colourOf y2 s.1 s.2) nlp (y3, y4) = some y5 → ∀ (H : Heap) (locs : List Loc) (ls : Array Slot), va_P D vwCl [(q, .inr (3, [.ref q_told])), (q_told, .inl (cI, 4, .inl f_told)), (q_p1, .inr (4, [.int f_p1_rooms, .int f_p1_people, .int f_p1_quarrels, .ref q_p1_needs, .ref q_p1_roomOf, .ref q_p1_colourOf, .ref q_p1_grudgeOf, .ref q_p1_tenthsOf, .ref q_p1_quarrelOf])), (q_p1_colourOf, .inl (cI, 5, .inl f_p1_colourOf))] H → va_D A [(q, .inr (3, [.ref q_told])), (q_told, .inl (cI, 4, .inl f_told)), (q_p1, .inr (4, [.int f_p1_rooms, .int f_p1_people, .int f_p1_quarrels, .ref q_p1_needs, .ref q_p1_roomOf, .ref q_p1_colourOf, .ref q_p1_grudgeOf, .ref q_p1_tenthsOf, .ref q_p1_quarrelOf])), (q_p1_colourOf, .inl (cI, 5, .inl f_p1_colourOf))] → va_S A s.heap H locs → lv_has ls 5 [(0, .ref q), (1, .ref q_p1), (2, .int y3), (3, .int y2), (4, .int y4)] → W p l e ({ frames := 2, cells := 0, slots := 0, locals := 47 } : Room) s m args below meth c H locs 0 0 Q (F0 m 10 ls []) := by
    intro y2 y5 hE nlp
    induction nlp with
    | zero => intro y3 y4 hf; cases hf
    | succ nlp ih =>
      intro y3 y4 hf H locs ls hP hD hS hl
      obtain ⟨zz, hz, hzE, hzN⟩ := gg_lpF_x hf
      replace hf : pX3_setsThatFit_L10 f_told f_p1_people f_p1_colourOf y2 y3 y4 = some zz := hz
      unfold pX3_setsThatFit_L10 at hf
      refine lv_iload hx hb dX3_setsThatFit_10 (lv_at hl 4 rfl) ?_
      refine lv_iload_n hx hb dX3_setsThatFit_12 rfl (lv_at hl 3 rfl) ?_
      refine lv_icmp_gt (tgt := 35) hx hb dX3_setsThatFit_13 (by decide) (fun hc => ?_) (fun hc => ?_)
      · replace hf := gg_pos hf hc
        have hq := hzE _ (Option.some.inj hf).symm
        cases hq
        exact hE _ _ _ hP hD hS (lv_sub hl [2] rfl)
      · replace hf := gg_neg hf hc
        refine lv_aload_n hx hb dX3_setsThatFit_16 rfl (lv_at hl 0 rfl) ?_
        refine lv_aload_n hx hb dX3_setsThatFit_17 rfl (lv_at hl 1 rfl) ?_
        refine lv_iload hx hb dX3_setsThatFit_18 (lv_at hl 4 rfl) ?_
        obtain ⟨r6, hu, hf⟩ := gg_c1_x hf
        refine gg_callV (wr := []) (w2 := fun _ => [(q, .inr (3, [.ref q_told])), (q_told, .inl (cI, 4, .inl f_told)), (q_p1, .inr (4, [.int f_p1_rooms, .int f_p1_people, .int f_p1_quarrels, .ref q_p1_needs, .ref q_p1_roomOf, .ref q_p1_colourOf, .ref q_p1_grudgeOf, .ref q_p1_tenthsOf, .ref q_p1_quarrelOf])), (q_p1_colourOf, .inl (cI, 5, .inl f_p1_colourOf))]) ⟨hx, hb, hml, hown, hts⟩ (mX3_fits l D cI cJ cZ cR q q_told q_p1 q_p1_colourOf q_p1_needs q_p1_roomOf q_p1_grudgeOf q_p1_tenthsOf q_p1_quarrelOf f_told f_p1_rooms f_p1_people f_p1_quarrels f_p1_colourOf _ r6 hu) (cwV 2 hts gX3_setsThatFit_X3_fits rfl rfl rfl (by decide +kernel) ⟨Nat.le_of_ble_eq_true rfl, Nat.le_of_ble_eq_true rfl⟩) hK hP hD hS hA 0 rfl rfl rfl rfl hl.1 rfl (Nat.le_of_ble_eq_true rfl) dX3_setsThatFit_20 ⟨Nat.le_of_ble_eq_true rfl, Nat.le_of_ble_eq_true rfl⟩ [0, 1, 2, 3] [] rfl rfl rfl rfl rfl [0, 1, 2, 3] rfl (fun _ => rfl) (fun _ H locs hP hD hS => ?_)
        refine gg_st_i ?_
        refine lv_if_eq (tgt := 29) hx hb dX3_setsThatFit_23 (by decide) (fun hc => ?_) (fun hc => ?_)
        · replace hf := gg_pos hf hc
          refine gg_iinc (cst := (1 : Int32)) (k := 4) (lv' := fun v7 => [(4, .int v7), (0, .ref q), (1, .ref q_p1), (2, .int y3), (3, .int y2)]) hx hb dX3_setsThatFit_29 hl rfl (by decide) (by decide) (fun _ => rfl) hf (fun v7 ls hl hf => ?_)
          refine lv_goto (tgt := 10) hx hb dX3_setsThatFit_32 (by decide) ?_
          exact ih _ _ (hzN _ (Option.some.inj hf).symm) _ _ _ hP hD hS (lv_sub hl [1, 2, 3, 4, 0] rfl)
        · replace hf := gg_neg hf hc
          refine gg_iinc (cst := (1 : Int32)) (k := 2) (lv' := fun v8 => [(2, .int v8), (0, .ref q), (1, .ref q_p1), (3, .int y2), (4, .int y4)]) hx hb dX3_setsThatFit_26 hl rfl (by decide) (by decide) (fun _ => rfl) hf (fun v8 ls hl hf => ?_)
          refine gg_iinc (cst := (1 : Int32)) (k := 4) (lv' := fun v9 => [(4, .int v9), (2, .int v8), (0, .ref q), (1, .ref q_p1), (3, .int y2)]) hx hb dX3_setsThatFit_29 hl rfl (by decide) (by decide) (fun _ => rfl) hf (fun v9 ls hl hf => ?_)
          refine lv_goto (tgt := 10) hx hb dX3_setsThatFit_32 (by decide) ?_
          exact ih _ _ (hzN _ (Option.some.inj hf).symm) _ _ _ hP hD hS (lv_sub hl [2, 3, 1, 4, 0] rfl)
  unfold pX3_setsThatFit at hf
  refine lv_iconst (v := (0 : Int32)) hx hb dX3_setsThatFit_0 (by decide) ?_
  refine lv_istore_n (lv' := [(2, .int (0 : Int32)), (0, .ref q), (1, .ref q_p1)]) hx hb dX3_setsThatFit_1 rfl hl (by decide) rfl (fun ls hl => ?_)
  refine lv_aload_n hx hb dX3_setsThatFit_2 rfl (lv_at hl 2 rfl) ?_
  obtain ⟨r1, hu, hf⟩ := gg_c1_x hf
  refine gg_callV (wr := [(q, .inr (3, [.ref q_told])), (q_told, .inl (cI, 4, .inl f_told)), (q_p1_colourOf, .inl (cI, 5, .inl f_p1_colourOf))]) (w2 := fun _ => [(q, .inr (3, [.ref q_told])), (q_told, .inl (cI, 4, .inl f_told)), (q_p1, .inr (4, [.int f_p1_rooms, .int f_p1_people, .int f_p1_quarrels, .ref q_p1_needs, .ref q_p1_roomOf, .ref q_p1_colourOf, .ref q_p1_grudgeOf, .ref q_p1_tenthsOf, .ref q_p1_quarrelOf])), (q_p1_colourOf, .inl (cI, 5, .inl f_p1_colourOf))]) ⟨hx, hb, hml, hown, hts⟩ (mX4_everyone l D cI cJ cZ cR q_p1 q_p1_needs q_p1_roomOf q_p1_colourOf q_p1_grudgeOf q_p1_tenthsOf q_p1_quarrelOf f_p1_rooms f_p1_people f_p1_quarrels  r1 hu) (cwV 0 hts gX3_setsThatFit_X4_everyone rfl rfl rfl (by decide +kernel) ⟨Nat.le_of_ble_eq_true rfl, Nat.le_of_ble_eq_true rfl⟩) hK hP hD hS hA 2 rfl rfl rfl rfl hl.1 rfl (Nat.le_of_ble_eq_true rfl) dX3_setsThatFit_3 ⟨Nat.le_of_ble_eq_true rfl, Nat.le_of_ble_eq_true rfl⟩ [2] [0, 1, 3] rfl rfl rfl rfl rfl [0, 1, 3, 2] rfl (fun _ => rfl) (fun _ H locs hP hD hS => ?_)
  refine gg_st_i ?_
  refine lv_istore_n (lv' := [(3, .int r1), (2, .int (0 : Int32)), (0, .ref q), (1, .ref q_p1)]) hx hb dX3_setsThatFit_6 rfl hl (by decide) rfl (fun ls hl => ?_)
  refine lv_iconst (v := (0 : Int32)) hx hb dX3_setsThatFit_7 (by decide) ?_
  refine lv_istore (lv' := [(4, .int (0 : Int32)), (3, .int r1), (2, .int (0 : Int32)), (0, .ref q), (1, .ref q_p1)]) hx hb dX3_setsThatFit_8 hl (by decide) rfl (fun ls hl => ?_)
  obtain ⟨y10, hlp, hf⟩ := gg_c1_x hf
  obtain ⟨nlp, hlp⟩ := gg_lp_x hlp
  refine L10 _ _ (fun H locs ls hP hD hS hl => ?_) nlp _ _ hlp _ _ _ hP hD hS (lv_sub hl [3, 4, 2, 1, 0] rfl)
  refine lv_iload_n hx hb dX3_setsThatFit_35 rfl (lv_at hl 0 rfl) ?_
  cases hf
  rw [hQ]
  exact gg_iret hx hb hr hlocks hS (Nat.le_of_ble_eq_true rfl) (Nat.le_of_ble_eq_true rfl) dX3_setsThatFit_36 () rfl hP hD
set_option maxHeartbeats 4000000 in
set_option maxRecDepth 100000 in
theorem mX3_surelyAway (l : Launch) (D : va_G) (cI cJ cZ cR : ClassId) (q q_told q_p1 q_p1_colourOf q_p1_needs q_p1_roomOf q_p1_grudgeOf q_p1_tenthsOf q_p1_quarrelOf : Nat) (f_told : (Nat → Int32)) (f_p1_rooms : Int32) (f_p1_people : Int32) (f_p1_quarrels : Int32) (f_p1_colourOf : (Nat → Int32)) (rr : Int32) (hf : pX3_surelyAway f_told f_p1_people f_p1_colourOf = some rr) : gg_M gN vwCl (gg_T cI cJ cZ cR) l D yX3_surelyAway wsX3_surelyAway ({ frames := 2, cells := 0, slots := 0, locals := 47 } : Room) [.ref q, .ref q_p1] [(q, .inr (3, [.ref q_told])), (q_told, .inl (cI, 4, .inl f_told)), (q_p1, .inr (4, [.int f_p1_rooms, .int f_p1_people, .int f_p1_quarrels, .ref q_p1_needs, .ref q_p1_roomOf, .ref q_p1_colourOf, .ref q_p1_grudgeOf, .ref q_p1_tenthsOf, .ref q_p1_quarrelOf])), (q_p1_colourOf, .inl (cI, 5, .inl f_p1_colourOf))] (fun _ : Unit => some (.int rr)) (fun _ => [(q, .inr (3, [.ref q_told])), (q_told, .inl (cI, 4, .inl f_told)), (q_p1, .inr (4, [.int f_p1_rooms, .int f_p1_people, .int f_p1_quarrels, .ref q_p1_needs, .ref q_p1_roomOf, .ref q_p1_colourOf, .ref q_p1_grudgeOf, .ref q_p1_tenthsOf, .ref q_p1_quarrelOf])), (q_p1_colourOf, .inl (cI, 5, .inl f_p1_colourOf))]) := by
  refine gg_M.of (cc := cX3_surelyAway) (maxL := 6) (rt := (some .int)) (by decide) rfl (Nat.le_of_ble_eq_true rfl) ?_
  intro p e s m below meth c A args Q hQ hx hb hr hml hts hown hlocks hin hA hS hP hK hD ls hl
  replace hown : s.vm.findClass RX3 = some m.cls := hown
  replace hl : lv_has ls 6 [(0, .ref q), (1, .ref q_p1)] := hl
  have L13 : ∀ (y2 : Int32) (y6 : Int32) (y7 : Int32), (∀ (H : Heap) (locs : List Loc) (ls : Array Slot), va_P D vwCl [(q, .inr (3, [.ref q_told])), (q_told, .inl (cI, 4, .inl f_told)), (q_p1, .inr (4, [.int f_p1_rooms, .int f_p1_people, .int f_p1_quarrels, .ref q_p1_needs, .ref q_p1_roomOf, .ref q_p1_colourOf, .ref q_p1_grudgeOf, .ref q_p1_tenthsOf, .ref q_p1_quarrelOf])), (q_p1_colourOf, .inl (cI, 5, .inl f_p1_colourOf))] H → va_D A [(q, .inr (3, [.ref q_told])), (q_told, .inl (cI, 4, .inl f_told)), (q_p1, .inr (4, [.int f_p1_rooms, .int f_p1_people, .int f_p1_quarrels, .ref q_p1_needs, .ref q_p1_roomOf, .ref q_p1_colourOf, .ref q_p1_grudgeOf, .ref q_p1_tenthsOf, .ref q_p1_quarrelOf])), (q_p1_colourOf, .inl (cI, 5, .inl f_p1_colourOf))] → va_S A s.heap H locs → lv_has ls 6 [(2, .int y6), (4, .int y7)] → W p l e ({ frames := 2, cells := 0, slots := 0, locals := 47 } : Room) s m args below meth c H locs 0 0 Q (F0 m 44 ls [])) → ∀ (nlp : Nat) (y3 : Int32) (y4 : Int32) (y5 : Int32), gg_lpF (fun (s : (Int32 × Int32 × Int32)) => pX3_surelyAway_L13 f_told f_p1_people f_p1_colourOf y2 s.1 s.2.1 s.2.2) nlp (y3, y4, y5) = some (y6, y7) → ∀ (H : Heap) (locs : List Loc) (ls : Array Slot), va_P D vwCl [(q, .inr (3, [.ref q_told])), (q_told, .inl (cI, 4, .inl f_told)), (q_p1, .inr (4, [.int f_p1_rooms, .int f_p1_people, .int f_p1_quarrels, .ref q_p1_needs, .ref q_p1_roomOf, .ref q_p1_colourOf, .ref q_p1_grudgeOf, .ref q_p1_tenthsOf, .ref q_p1_quarrelOf])), (q_p1_colourOf, .inl (cI, 5, .inl f_p1_colourOf))] H → va_D A [(q, .inr (3, [.ref q_told])), (q_told, .inl (cI, 4, .inl f_told)), (q_p1, .inr (4, [.int f_p1_rooms, .int f_p1_people, .int f_p1_quarrels, .ref q_p1_needs, .ref q_p1_roomOf, .ref q_p1_colourOf, .ref q_p1_grudgeOf, .ref q_p1_tenthsOf, .ref q_p1_quarrelOf])), (q_p1_colourOf, .inl (cI, 5, .inl f_p1_colourOf))] → va_S A s.heap H locs → lv_has ls 6 [(0, .ref q), (1, .ref q_p1), (2, .int y3), (3, .int y2), (4, .int y4), (5, .int y5)] → W p l e ({ frames := 2, cells := 0, slots := 0, locals := 47 } : Room) s m args below meth c H locs 0 0 Q (F0 m 13 ls []) := by
    intro y2 y6 y7 hE nlp
    induction nlp with
    | zero => intro y3 y4 y5 hf; cases hf
    | succ nlp ih =>
      intro y3 y4 y5 hf H locs ls hP hD hS hl
      obtain ⟨zz, hz, hzE, hzN⟩ := gg_lpF_x hf
      replace hf : pX3_surelyAway_L13 f_told f_p1_people f_p1_colourOf y2 y3 y4 y5 = some zz := hz
      unfold pX3_surelyAway_L13 at hf
      refine lv_iload hx hb dX3_surelyAway_13 (lv_at hl 5 rfl) ?_
      refine lv_iload_n hx hb dX3_surelyAway_15 rfl (lv_at hl 3 rfl) ?_
      refine lv_icmp_gt (tgt := 44) hx hb dX3_surelyAway_16 (by decide) (fun hc => ?_) (fun hc => ?_)
      · replace hf := gg_pos hf hc
        have hq := hzE _ (Option.some.inj hf).symm
        cases hq
        exact hE _ _ _ hP hD hS (lv_sub hl [2, 4] rfl)
      · replace hf := gg_neg hf hc
        refine lv_aload_n hx hb dX3_surelyAway_19 rfl (lv_at hl 0 rfl) ?_
        refine lv_aload_n hx hb dX3_surelyAway_20 rfl (lv_at hl 1 rfl) ?_
        refine lv_iload hx hb dX3_surelyAway_21 (lv_at hl 5 rfl) ?_
        obtain ⟨r8, hu, hf⟩ := gg_c1_x hf
        refine gg_callV (wr := []) (w2 := fun _ => [(q, .inr (3, [.ref q_told])), (q_told, .inl (cI, 4, .inl f_told)), (q_p1, .inr (4, [.int f_p1_rooms, .int f_p1_people, .int f_p1_quarrels, .ref q_p1_needs, .ref q_p1_roomOf, .ref q_p1_colourOf, .ref q_p1_grudgeOf, .ref q_p1_tenthsOf, .ref q_p1_quarrelOf])), (q_p1_colourOf, .inl (cI, 5, .inl f_p1_colourOf))]) ⟨hx, hb, hml, hown, hts⟩ (mX3_fits l D cI cJ cZ cR q q_told q_p1 q_p1_colourOf q_p1_needs q_p1_roomOf q_p1_grudgeOf q_p1_tenthsOf q_p1_quarrelOf f_told f_p1_rooms f_p1_people f_p1_quarrels f_p1_colourOf _ r8 hu) (cwV 2 hts gX3_surelyAway_X3_fits rfl rfl rfl (by decide +kernel) ⟨Nat.le_of_ble_eq_true rfl, Nat.le_of_ble_eq_true rfl⟩) hK hP hD hS hA 0 rfl rfl rfl rfl hl.1 rfl (Nat.le_of_ble_eq_true rfl) dX3_surelyAway_23 ⟨Nat.le_of_ble_eq_true rfl, Nat.le_of_ble_eq_true rfl⟩ [0, 1, 2, 3] [] rfl rfl rfl rfl rfl [0, 1, 2, 3] rfl (fun _ => rfl) (fun _ H locs hP hD hS => ?_)
        refine gg_st_i ?_
        refine lv_if_eq (tgt := 38) hx hb dX3_surelyAway_26 (by decide) (fun hc => ?_) (fun hc => ?_)
        · replace hf := gg_pos hf hc
          refine gg_iinc (cst := (1 : Int32)) (k := 5) (lv' := fun v9 => [(5, .int v9), (0, .ref q), (1, .ref q_p1), (2, .int y3), (3, .int y2), (4, .int y4)]) hx hb dX3_surelyAway_38 hl rfl (by decide) (by decide) (fun _ => rfl) hf (fun v9 ls hl hf => ?_)
          refine lv_goto (tgt := 13) hx hb dX3_surelyAway_41 (by decide) ?_
          exact ih _ _ _ (hzN _ (Option.some.inj hf).symm) _ _ _ hP hD hS (lv_sub hl [1, 2, 3, 4, 5, 0] rfl)
        · replace hf := gg_neg hf hc
          refine lv_iconst (v := (1 : Int32)) hx hb dX3_surelyAway_29 (by decide) ?_
          refine lv_istore_n (lv' := [(2, .int (1 : Int32)), (0, .ref q), (1, .ref q_p1), (3, .int y2), (4, .int y4), (5, .int y5)]) hx hb dX3_surelyAway_30 rfl hl (by decide) rfl (fun ls hl => ?_)
          refine lv_iload hx hb dX3_surelyAway_31 (lv_at hl 4 rfl) ?_
          refine lv_iload hx hb dX3_surelyAway_33 (lv_at hl 5 rfl) ?_
          refine lv_iand hx hb dX3_surelyAway_35 ?_
          refine gg_topi hf (fun v10 hf => ?_)
          refine lv_istore (lv' := [(4, .int v10), (2, .int (1 : Int32)), (0, .ref q), (1, .ref q_p1), (3, .int y2), (5, .int y5)]) hx hb dX3_surelyAway_36 hl (by decide) rfl (fun ls hl => ?_)
          refine gg_iinc (cst := (1 : Int32)) (k := 5) (lv' := fun v11 => [(5, .int v11), (4, .int v10), (2, .int (1 : Int32)), (0, .ref q), (1, .ref q_p1), (3, .int y2)]) hx hb dX3_surelyAway_38 hl rfl (by decide) (by decide) (fun _ => rfl) hf (fun v11 ls hl hf => ?_)
          refine lv_goto (tgt := 13) hx hb dX3_surelyAway_41 (by decide) ?_
          exact ih _ _ _ (hzN _ (Option.some.inj hf).symm) _ _ _ hP hD hS (lv_sub hl [3, 4, 2, 5, 1, 0] rfl)
  unfold pX3_surelyAway at hf
  refine lv_iconst (v := (0 : Int32)) hx hb dX3_surelyAway_0 (by decide) ?_
  refine lv_istore_n (lv' := [(2, .int (0 : Int32)), (0, .ref q), (1, .ref q_p1)]) hx hb dX3_surelyAway_1 rfl hl (by decide) rfl (fun ls hl => ?_)
  refine lv_aload_n hx hb dX3_surelyAway_2 rfl (lv_at hl 2 rfl) ?_
  obtain ⟨r1, hu, hf⟩ := gg_c1_x hf
  refine gg_callV (wr := [(q, .inr (3, [.ref q_told])), (q_told, .inl (cI, 4, .inl f_told)), (q_p1_colourOf, .inl (cI, 5, .inl f_p1_colourOf))]) (w2 := fun _ => [(q, .inr (3, [.ref q_told])), (q_told, .inl (cI, 4, .inl f_told)), (q_p1, .inr (4, [.int f_p1_rooms, .int f_p1_people, .int f_p1_quarrels, .ref q_p1_needs, .ref q_p1_roomOf, .ref q_p1_colourOf, .ref q_p1_grudgeOf, .ref q_p1_tenthsOf, .ref q_p1_quarrelOf])), (q_p1_colourOf, .inl (cI, 5, .inl f_p1_colourOf))]) ⟨hx, hb, hml, hown, hts⟩ (mX4_everyone l D cI cJ cZ cR q_p1 q_p1_needs q_p1_roomOf q_p1_colourOf q_p1_grudgeOf q_p1_tenthsOf q_p1_quarrelOf f_p1_rooms f_p1_people f_p1_quarrels  r1 hu) (cwV 0 hts gX3_surelyAway_X4_everyone rfl rfl rfl (by decide +kernel) ⟨Nat.le_of_ble_eq_true rfl, Nat.le_of_ble_eq_true rfl⟩) hK hP hD hS hA 2 rfl rfl rfl rfl hl.1 rfl (Nat.le_of_ble_eq_true rfl) dX3_surelyAway_3 ⟨Nat.le_of_ble_eq_true rfl, Nat.le_of_ble_eq_true rfl⟩ [2] [0, 1, 3] rfl rfl rfl rfl rfl [0, 1, 3, 2] rfl (fun _ => rfl) (fun _ H locs hP hD hS => ?_)
  refine gg_st_i ?_
  refine lv_istore_n (lv' := [(3, .int r1), (2, .int (0 : Int32)), (0, .ref q), (1, .ref q_p1)]) hx hb dX3_surelyAway_6 rfl hl (by decide) rfl (fun ls hl => ?_)
  refine lv_iload_n hx hb dX3_surelyAway_7 rfl (lv_at hl 0 rfl) ?_
  refine lv_istore (lv' := [(4, .int r1), (3, .int r1), (2, .int (0 : Int32)), (0, .ref q), (1, .ref q_p1)]) hx hb dX3_surelyAway_8 hl (by decide) rfl (fun ls hl => ?_)
  refine lv_iconst (v := (0 : Int32)) hx hb dX3_surelyAway_10 (by decide) ?_
  refine lv_istore (lv' := [(5, .int (0 : Int32)), (4, .int r1), (3, .int r1), (2, .int (0 : Int32)), (0, .ref q), (1, .ref q_p1)]) hx hb dX3_surelyAway_11 hl (by decide) rfl (fun ls hl => ?_)
  obtain ⟨y12, y13, hlp, hf⟩ := gg_c2_x hf
  obtain ⟨nlp, hlp⟩ := gg_lp_x hlp
  refine L13 _ _ _ (fun H locs ls hP hD hS hl => ?_) nlp _ _ _ hlp _ _ _ hP hD hS (lv_sub hl [4, 5, 3, 2, 1, 0] rfl)
  refine lv_iload_n hx hb dX3_surelyAway_44 rfl (lv_at hl 0 rfl) ?_
  refine lv_if_eq (tgt := 53) hx hb dX3_surelyAway_45 (by decide) (fun hc => ?_) (fun hc => ?_)
  · replace hf := gg_pos hf hc
    refine lv_bipush (v := (-9 : Int32)) hx hb dX3_surelyAway_53 (by decide) ?_
    cases hf
    rw [hQ]
    exact gg_iret hx hb hr hlocks hS (Nat.le_of_ble_eq_true rfl) (Nat.le_of_ble_eq_true rfl) dX3_surelyAway_55 () rfl hP hD
  · replace hf := gg_neg hf hc
    refine lv_iload hx hb dX3_surelyAway_48 (lv_at hl 1 rfl) ?_
    refine lv_goto (tgt := 55) hx hb dX3_surelyAway_50 (by decide) ?_
    cases hf
    rw [hQ]
    exact gg_iret hx hb hr hlocks hS (Nat.le_of_ble_eq_true rfl) (Nat.le_of_ble_eq_true rfl) dX3_surelyAway_55 () rfl hP hD
set_option maxHeartbeats 4000000 in
set_option maxRecDepth 100000 in
theorem mX3_surelyCame (l : Launch) (D : va_G) (cI cJ cZ cR : ClassId) (q q_told q_p1 q_p1_colourOf q_p1_needs q_p1_roomOf q_p1_grudgeOf q_p1_tenthsOf q_p1_quarrelOf : Nat) (f_told : (Nat → Int32)) (f_p1_rooms : Int32) (f_p1_people : Int32) (f_p1_quarrels : Int32) (f_p1_colourOf : (Nat → Int32)) (rr : Int32) (hf : pX3_surelyCame f_told f_p1_people f_p1_colourOf = some rr) : gg_M gN vwCl (gg_T cI cJ cZ cR) l D yX3_surelyCame wsX3_surelyCame ({ frames := 2, cells := 0, slots := 0, locals := 47 } : Room) [.ref q, .ref q_p1] [(q, .inr (3, [.ref q_told])), (q_told, .inl (cI, 4, .inl f_told)), (q_p1, .inr (4, [.int f_p1_rooms, .int f_p1_people, .int f_p1_quarrels, .ref q_p1_needs, .ref q_p1_roomOf, .ref q_p1_colourOf, .ref q_p1_grudgeOf, .ref q_p1_tenthsOf, .ref q_p1_quarrelOf])), (q_p1_colourOf, .inl (cI, 5, .inl f_p1_colourOf))] (fun _ : Unit => some (.int rr)) (fun _ => [(q, .inr (3, [.ref q_told])), (q_told, .inl (cI, 4, .inl f_told)), (q_p1, .inr (4, [.int f_p1_rooms, .int f_p1_people, .int f_p1_quarrels, .ref q_p1_needs, .ref q_p1_roomOf, .ref q_p1_colourOf, .ref q_p1_grudgeOf, .ref q_p1_tenthsOf, .ref q_p1_quarrelOf])), (q_p1_colourOf, .inl (cI, 5, .inl f_p1_colourOf))]) := by
  refine gg_M.of (cc := cX3_surelyCame) (maxL := 6) (rt := (some .int)) (by decide) rfl (Nat.le_of_ble_eq_true rfl) ?_
  intro p e s m below meth c A args Q hQ hx hb hr hml hts hown hlocks hin hA hS hP hK hD ls hl
  replace hown : s.vm.findClass RX3 = some m.cls := hown
  replace hl : lv_has ls 6 [(0, .ref q), (1, .ref q_p1)] := hl
  have L13 : ∀ (y2 : Int32) (y6 : Int32) (y7 : Int32), (∀ (H : Heap) (locs : List Loc) (ls : Array Slot), va_P D vwCl [(q, .inr (3, [.ref q_told])), (q_told, .inl (cI, 4, .inl f_told)), (q_p1, .inr (4, [.int f_p1_rooms, .int f_p1_people, .int f_p1_quarrels, .ref q_p1_needs, .ref q_p1_roomOf, .ref q_p1_colourOf, .ref q_p1_grudgeOf, .ref q_p1_tenthsOf, .ref q_p1_quarrelOf])), (q_p1_colourOf, .inl (cI, 5, .inl f_p1_colourOf))] H → va_D A [(q, .inr (3, [.ref q_told])), (q_told, .inl (cI, 4, .inl f_told)), (q_p1, .inr (4, [.int f_p1_rooms, .int f_p1_people, .int f_p1_quarrels, .ref q_p1_needs, .ref q_p1_roomOf, .ref q_p1_colourOf, .ref q_p1_grudgeOf, .ref q_p1_tenthsOf, .ref q_p1_quarrelOf])), (q_p1_colourOf, .inl (cI, 5, .inl f_p1_colourOf))] → va_S A s.heap H locs → lv_has ls 6 [(2, .int y6), (3, .int y2), (4, .int y7)] → W p l e ({ frames := 2, cells := 0, slots := 0, locals := 47 } : Room) s m args below meth c H locs 0 0 Q (F0 m 44 ls [])) → ∀ (nlp : Nat) (y3 : Int32) (y4 : Int32) (y5 : Int32), gg_lpF (fun (s : (Int32 × Int32 × Int32)) => pX3_surelyCame_L13 f_told f_p1_people f_p1_colourOf y2 s.1 s.2.1 s.2.2) nlp (y3, y4, y5) = some (y6, y7) → ∀ (H : Heap) (locs : List Loc) (ls : Array Slot), va_P D vwCl [(q, .inr (3, [.ref q_told])), (q_told, .inl (cI, 4, .inl f_told)), (q_p1, .inr (4, [.int f_p1_rooms, .int f_p1_people, .int f_p1_quarrels, .ref q_p1_needs, .ref q_p1_roomOf, .ref q_p1_colourOf, .ref q_p1_grudgeOf, .ref q_p1_tenthsOf, .ref q_p1_quarrelOf])), (q_p1_colourOf, .inl (cI, 5, .inl f_p1_colourOf))] H → va_D A [(q, .inr (3, [.ref q_told])), (q_told, .inl (cI, 4, .inl f_told)), (q_p1, .inr (4, [.int f_p1_rooms, .int f_p1_people, .int f_p1_quarrels, .ref q_p1_needs, .ref q_p1_roomOf, .ref q_p1_colourOf, .ref q_p1_grudgeOf, .ref q_p1_tenthsOf, .ref q_p1_quarrelOf])), (q_p1_colourOf, .inl (cI, 5, .inl f_p1_colourOf))] → va_S A s.heap H locs → lv_has ls 6 [(0, .ref q), (1, .ref q_p1), (2, .int y3), (3, .int y2), (4, .int y4), (5, .int y5)] → W p l e ({ frames := 2, cells := 0, slots := 0, locals := 47 } : Room) s m args below meth c H locs 0 0 Q (F0 m 13 ls []) := by
    intro y2 y6 y7 hE nlp
    induction nlp with
    | zero => intro y3 y4 y5 hf; cases hf
    | succ nlp ih =>
      intro y3 y4 y5 hf H locs ls hP hD hS hl
      obtain ⟨zz, hz, hzE, hzN⟩ := gg_lpF_x hf
      replace hf : pX3_surelyCame_L13 f_told f_p1_people f_p1_colourOf y2 y3 y4 y5 = some zz := hz
      unfold pX3_surelyCame_L13 at hf
      refine lv_iload hx hb dX3_surelyCame_13 (lv_at hl 5 rfl) ?_
      refine lv_iload_n hx hb dX3_surelyCame_15 rfl (lv_at hl 3 rfl) ?_
      refine lv_icmp_gt (tgt := 44) hx hb dX3_surelyCame_16 (by decide) (fun hc => ?_) (fun hc => ?_)
      · replace hf := gg_pos hf hc
        have hq := hzE _ (Option.some.inj hf).symm
        cases hq
        exact hE _ _ _ hP hD hS (lv_sub hl [2, 3, 4] rfl)
      · replace hf := gg_neg hf hc
        refine lv_aload_n hx hb dX3_surelyCame_19 rfl (lv_at hl 0 rfl) ?_
        refine lv_aload_n hx hb dX3_surelyCame_20 rfl (lv_at hl 1 rfl) ?_
        refine lv_iload hx hb dX3_surelyCame_21 (lv_at hl 5 rfl) ?_
        obtain ⟨r8, hu, hf⟩ := gg_c1_x hf
        refine gg_callV (wr := []) (w2 := fun _ => [(q, .inr (3, [.ref q_told])), (q_told, .inl (cI, 4, .inl f_told)), (q_p1, .inr (4, [.int f_p1_rooms, .int f_p1_people, .int f_p1_quarrels, .ref q_p1_needs, .ref q_p1_roomOf, .ref q_p1_colourOf, .ref q_p1_grudgeOf, .ref q_p1_tenthsOf, .ref q_p1_quarrelOf])), (q_p1_colourOf, .inl (cI, 5, .inl f_p1_colourOf))]) ⟨hx, hb, hml, hown, hts⟩ (mX3_fits l D cI cJ cZ cR q q_told q_p1 q_p1_colourOf q_p1_needs q_p1_roomOf q_p1_grudgeOf q_p1_tenthsOf q_p1_quarrelOf f_told f_p1_rooms f_p1_people f_p1_quarrels f_p1_colourOf _ r8 hu) (cwV 2 hts gX3_surelyCame_X3_fits rfl rfl rfl (by decide +kernel) ⟨Nat.le_of_ble_eq_true rfl, Nat.le_of_ble_eq_true rfl⟩) hK hP hD hS hA 0 rfl rfl rfl rfl hl.1 rfl (Nat.le_of_ble_eq_true rfl) dX3_surelyCame_23 ⟨Nat.le_of_ble_eq_true rfl, Nat.le_of_ble_eq_true rfl⟩ [0, 1, 2, 3] [] rfl rfl rfl rfl rfl [0, 1, 2, 3] rfl (fun _ => rfl) (fun _ H locs hP hD hS => ?_)
        refine gg_st_i ?_
        refine lv_if_eq (tgt := 38) hx hb dX3_surelyCame_26 (by decide) (fun hc => ?_) (fun hc => ?_)
        · replace hf := gg_pos hf hc
          refine gg_iinc (cst := (1 : Int32)) (k := 5) (lv' := fun v9 => [(5, .int v9), (0, .ref q), (1, .ref q_p1), (2, .int y3), (3, .int y2), (4, .int y4)]) hx hb dX3_surelyCame_38 hl rfl (by decide) (by decide) (fun _ => rfl) hf (fun v9 ls hl hf => ?_)
          refine lv_goto (tgt := 13) hx hb dX3_surelyCame_41 (by decide) ?_
          exact ih _ _ _ (hzN _ (Option.some.inj hf).symm) _ _ _ hP hD hS (lv_sub hl [1, 2, 3, 4, 5, 0] rfl)
        · replace hf := gg_neg hf hc
          refine lv_iconst (v := (1 : Int32)) hx hb dX3_surelyCame_29 (by decide) ?_
          refine lv_istore_n (lv' := [(2, .int (1 : Int32)), (0, .ref q), (1, .ref q_p1), (3, .int y2), (4, .int y4), (5, .int y5)]) hx hb dX3_surelyCame_30 rfl hl (by decide) rfl (fun ls hl => ?_)
          refine lv_iload hx hb dX3_surelyCame_31 (lv_at hl 4 rfl) ?_
          refine lv_iload hx hb dX3_surelyCame_33 (lv_at hl 5 rfl) ?_
          refine lv_ior hx hb dX3_surelyCame_35 ?_
          refine gg_topi hf (fun v10 hf => ?_)
          refine lv_istore (lv' := [(4, .int v10), (2, .int (1 : Int32)), (0, .ref q), (1, .ref q_p1), (3, .int y2), (5, .int y5)]) hx hb dX3_surelyCame_36 hl (by decide) rfl (fun ls hl => ?_)
          refine gg_iinc (cst := (1 : Int32)) (k := 5) (lv' := fun v11 => [(5, .int v11), (4, .int v10), (2, .int (1 : Int32)), (0, .ref q), (1, .ref q_p1), (3, .int y2)]) hx hb dX3_surelyCame_38 hl rfl (by decide) (by decide) (fun _ => rfl) hf (fun v11 ls hl hf => ?_)
          refine lv_goto (tgt := 13) hx hb dX3_surelyCame_41 (by decide) ?_
          exact ih _ _ _ (hzN _ (Option.some.inj hf).symm) _ _ _ hP hD hS (lv_sub hl [3, 4, 2, 5, 1, 0] rfl)
  unfold pX3_surelyCame at hf
  refine lv_iconst (v := (0 : Int32)) hx hb dX3_surelyCame_0 (by decide) ?_
  refine lv_istore_n (lv' := [(2, .int (0 : Int32)), (0, .ref q), (1, .ref q_p1)]) hx hb dX3_surelyCame_1 rfl hl (by decide) rfl (fun ls hl => ?_)
  refine lv_aload_n hx hb dX3_surelyCame_2 rfl (lv_at hl 2 rfl) ?_
  obtain ⟨r1, hu, hf⟩ := gg_c1_x hf
  refine gg_callV (wr := [(q, .inr (3, [.ref q_told])), (q_told, .inl (cI, 4, .inl f_told)), (q_p1_colourOf, .inl (cI, 5, .inl f_p1_colourOf))]) (w2 := fun _ => [(q, .inr (3, [.ref q_told])), (q_told, .inl (cI, 4, .inl f_told)), (q_p1, .inr (4, [.int f_p1_rooms, .int f_p1_people, .int f_p1_quarrels, .ref q_p1_needs, .ref q_p1_roomOf, .ref q_p1_colourOf, .ref q_p1_grudgeOf, .ref q_p1_tenthsOf, .ref q_p1_quarrelOf])), (q_p1_colourOf, .inl (cI, 5, .inl f_p1_colourOf))]) ⟨hx, hb, hml, hown, hts⟩ (mX4_everyone l D cI cJ cZ cR q_p1 q_p1_needs q_p1_roomOf q_p1_colourOf q_p1_grudgeOf q_p1_tenthsOf q_p1_quarrelOf f_p1_rooms f_p1_people f_p1_quarrels  r1 hu) (cwV 0 hts gX3_surelyCame_X4_everyone rfl rfl rfl (by decide +kernel) ⟨Nat.le_of_ble_eq_true rfl, Nat.le_of_ble_eq_true rfl⟩) hK hP hD hS hA 2 rfl rfl rfl rfl hl.1 rfl (Nat.le_of_ble_eq_true rfl) dX3_surelyCame_3 ⟨Nat.le_of_ble_eq_true rfl, Nat.le_of_ble_eq_true rfl⟩ [2] [0, 1, 3] rfl rfl rfl rfl rfl [0, 1, 3, 2] rfl (fun _ => rfl) (fun _ H locs hP hD hS => ?_)
  refine gg_st_i ?_
  refine lv_istore_n (lv' := [(3, .int r1), (2, .int (0 : Int32)), (0, .ref q), (1, .ref q_p1)]) hx hb dX3_surelyCame_6 rfl hl (by decide) rfl (fun ls hl => ?_)
  refine lv_iconst (v := (0 : Int32)) hx hb dX3_surelyCame_7 (by decide) ?_
  refine lv_istore (lv' := [(4, .int (0 : Int32)), (3, .int r1), (2, .int (0 : Int32)), (0, .ref q), (1, .ref q_p1)]) hx hb dX3_surelyCame_8 hl (by decide) rfl (fun ls hl => ?_)
  refine lv_iconst (v := (0 : Int32)) hx hb dX3_surelyCame_10 (by decide) ?_
  refine lv_istore (lv' := [(5, .int (0 : Int32)), (4, .int (0 : Int32)), (3, .int r1), (2, .int (0 : Int32)), (0, .ref q), (1, .ref q_p1)]) hx hb dX3_surelyCame_11 hl (by decide) rfl (fun ls hl => ?_)
  obtain ⟨y12, y13, hlp, hf⟩ := gg_c2_x hf
  obtain ⟨nlp, hlp⟩ := gg_lp_x hlp
  refine L13 _ _ _ (fun H locs ls hP hD hS hl => ?_) nlp _ _ _ hlp _ _ _ hP hD hS (lv_sub hl [4, 5, 3, 2, 1, 0] rfl)
  refine lv_iload_n hx hb dX3_surelyCame_44 rfl (lv_at hl 0 rfl) ?_
  refine lv_if_eq (tgt := 57) hx hb dX3_surelyCame_45 (by decide) (fun hc => ?_) (fun hc => ?_)
  · replace hf := gg_pos hf hc
    refine lv_bipush (v := (-9 : Int32)) hx hb dX3_surelyCame_57 (by decide) ?_
    cases hf
    rw [hQ]
    exact gg_iret hx hb hr hlocks hS (Nat.le_of_ble_eq_true rfl) (Nat.le_of_ble_eq_true rfl) dX3_surelyCame_59 () rfl hP hD
  · replace hf := gg_neg hf hc
    refine lv_iload_n hx hb dX3_surelyCame_48 rfl (lv_at hl 1 rfl) ?_
    refine lv_iload hx hb dX3_surelyCame_49 (lv_at hl 2 rfl) ?_
    refine lv_iconst (v := (-1 : Int32)) hx hb dX3_surelyCame_51 (by decide) ?_
    refine lv_ixor hx hb dX3_surelyCame_52 ?_
    refine lv_iand hx hb dX3_surelyCame_53 ?_
    refine lv_goto (tgt := 59) hx hb dX3_surelyCame_54 (by decide) ?_
    cases hf
    rw [hQ]
    exact gg_iret hx hb hr hlocks hS (Nat.le_of_ble_eq_true rfl) (Nat.le_of_ble_eq_true rfl) dX3_surelyCame_59 () rfl hP hD
set_option maxHeartbeats 4000000 in
set_option maxRecDepth 100000 in
theorem mX7_who (l : Launch) (D : va_G) (cI cJ cZ cR : ClassId) (q q_lived q_lived_colourOf q_evening q_evening_told q_text q_reader q_carpets q_acts q_slots q_slotFilled q_planner q_chances q_lived_needs q_lived_roomOf q_lived_grudgeOf q_lived_tenthsOf q_lived_quarrelOf : Nat) (f_textLength : Int32) (f_seedNow : Int64) (f_lived_rooms : Int32) (f_lived_people : Int32) (f_lived_quarrels : Int32) (f_lived_colourOf : (Nat → Int32)) (f_evening_told : (Nat → Int32)) (x1 : Int32) (rr : Int32) (hf : pX7_who f_lived_people f_lived_colourOf f_evening_told x1 = some rr) : gg_M gN vwCl (gg_T cI cJ cZ cR) l D yX7_who wsX7_who ({ frames := 3, cells := 0, slots := 0, locals := 72 } : Room) [.ref q, .int x1] [(q, .inr (7, [.ref q_text, .int f_textLength, .ref q_reader, .ref q_lived, .ref q_carpets, .ref q_acts, .ref q_slots, .ref q_slotFilled, .ref q_evening, .ref q_planner, .ref q_chances, .long f_seedNow])), (q_lived, .inr (4, [.int f_lived_rooms, .int f_lived_people, .int f_lived_quarrels, .ref q_lived_needs, .ref q_lived_roomOf, .ref q_lived_colourOf, .ref q_lived_grudgeOf, .ref q_lived_tenthsOf, .ref q_lived_quarrelOf])), (q_lived_colourOf, .inl (cI, 5, .inl f_lived_colourOf)), (q_evening, .inr (3, [.ref q_evening_told])), (q_evening_told, .inl (cI, 4, .inl f_evening_told))] (fun _ : Unit => some (.int rr)) (fun _ => [(q, .inr (7, [.ref q_text, .int f_textLength, .ref q_reader, .ref q_lived, .ref q_carpets, .ref q_acts, .ref q_slots, .ref q_slotFilled, .ref q_evening, .ref q_planner, .ref q_chances, .long f_seedNow])), (q_lived, .inr (4, [.int f_lived_rooms, .int f_lived_people, .int f_lived_quarrels, .ref q_lived_needs, .ref q_lived_roomOf, .ref q_lived_colourOf, .ref q_lived_grudgeOf, .ref q_lived_tenthsOf, .ref q_lived_quarrelOf])), (q_lived_colourOf, .inl (cI, 5, .inl f_lived_colourOf)), (q_evening, .inr (3, [.ref q_evening_told])), (q_evening_told, .inl (cI, 4, .inl f_evening_told))]) := by
  refine gg_M.of (cc := cX7_who) (maxL := 2) (rt := (some .int)) (by decide) rfl (Nat.le_of_ble_eq_true rfl) ?_
  intro p e s m below meth c A args Q hQ hx hb hr hml hts hown hlocks hin hA hS hP hK hD ls hl
  replace hown : s.vm.findClass RX7 = some m.cls := hown
  replace hl : lv_has ls 2 [(0, .ref q), (1, .int x1)] := hl
  have k57 := (hts (.fieldLink RX7 57 "AbsentCarpets" "evening" "LAbsentCarpets$Evening;") (List.mem_of_getElem? (i := 1) rfl))
  have k27 := (hts (.fieldLink RX7 27 "AbsentCarpets" "lived" "LAbsentCarpets$House;") (List.mem_of_getElem? (i := 2) rfl))
  have iX7 : ∀ w ∈ wsX70, w ∈ wsX7_who := fun _ h => List.mem_cons_of_mem _ (List.mem_append_left _ (List.mem_append_left _ (List.mem_append_right _ (h))))
  unfold pX7_who at hf
  refine lv_iload_n hx hb dX7_who_0 rfl (lv_at hl 1 rfl) ?_
  by_cases hs0 : x1 = (0 : Int32)
  · replace hf := gg_pos hf hs0
    refine lv_tableIn (tgt := 28) hx hb dX7_who_1 (by rw [hs0]; decide) (by rw [hs0]; decide) (by rw [hs0]; rfl) (by decide) ?_
    refine lv_aload_n hx hb dX7_who_28 rfl (lv_at hl 0 rfl) ?_
    refine gg_get hx hb hts iX7 hown hK hP 0 rfl rfl 8 (by decide) k57 rfl rfl dX7_who_29 ?_
    refine lv_aload_n hx hb dX7_who_32 rfl (lv_at hl 0 rfl) ?_
    refine gg_get hx hb hts iX7 hown hK hP 0 rfl rfl 3 (by decide) k27 rfl rfl dX7_who_33 ?_
    obtain ⟨r1, hu, hf⟩ := gg_c1_x hf
    refine gg_callV (wr := [(q, .inr (7, [.ref q_text, .int f_textLength, .ref q_reader, .ref q_lived, .ref q_carpets, .ref q_acts, .ref q_slots, .ref q_slotFilled, .ref q_evening, .ref q_planner, .ref q_chances, .long f_seedNow]))]) (w2 := fun _ => [(q, .inr (7, [.ref q_text, .int f_textLength, .ref q_reader, .ref q_lived, .ref q_carpets, .ref q_acts, .ref q_slots, .ref q_slotFilled, .ref q_evening, .ref q_planner, .ref q_chances, .long f_seedNow])), (q_lived, .inr (4, [.int f_lived_rooms, .int f_lived_people, .int f_lived_quarrels, .ref q_lived_needs, .ref q_lived_roomOf, .ref q_lived_colourOf, .ref q_lived_grudgeOf, .ref q_lived_tenthsOf, .ref q_lived_quarrelOf])), (q_lived_colourOf, .inl (cI, 5, .inl f_lived_colourOf)), (q_evening, .inr (3, [.ref q_evening_told])), (q_evening_told, .inl (cI, 4, .inl f_evening_told))]) ⟨hx, hb, hml, hown, hts⟩ (mX3_setsThatFit l D cI cJ cZ cR q_evening q_evening_told q_lived q_lived_colourOf q_lived_needs q_lived_roomOf q_lived_grudgeOf q_lived_tenthsOf q_lived_quarrelOf f_evening_told f_lived_rooms f_lived_people f_lived_quarrels f_lived_colourOf  r1 hu) (cwV 1 hts gX7_who_X3_setsThatFit rfl rfl rfl (by decide +kernel) ⟨Nat.le_of_ble_eq_true rfl, Nat.le_of_ble_eq_true rfl⟩) hK hP hD hS hA 3 rfl rfl rfl rfl hl.1 rfl (Nat.le_of_ble_eq_true rfl) dX7_who_36 ⟨Nat.le_of_ble_eq_true rfl, Nat.le_of_ble_eq_true rfl⟩ [3, 4, 1, 2] [0] rfl rfl rfl rfl rfl [0, 3, 4, 1, 2] rfl (fun _ => rfl) (fun _ H locs hP hD hS => ?_)
    refine gg_st_i ?_
    cases hf
    rw [hQ]
    exact gg_iret hx hb hr hlocks hS (Nat.le_of_ble_eq_true rfl) (Nat.le_of_ble_eq_true rfl) dX7_who_39 () rfl hP hD
  · replace hf := gg_neg hf hs0
    by_cases hs1 : x1 = (1 : Int32)
    · replace hf := gg_pos hf hs1
      refine lv_tableIn (tgt := 40) hx hb dX7_who_1 (by rw [hs1]; decide) (by rw [hs1]; decide) (by rw [hs1]; rfl) (by decide) ?_
      refine lv_aload_n hx hb dX7_who_40 rfl (lv_at hl 0 rfl) ?_
      refine gg_get hx hb hts iX7 hown hK hP 0 rfl rfl 8 (by decide) k57 rfl rfl dX7_who_41 ?_
      refine lv_aload_n hx hb dX7_who_44 rfl (lv_at hl 0 rfl) ?_
      refine gg_get hx hb hts iX7 hown hK hP 0 rfl rfl 3 (by decide) k27 rfl rfl dX7_who_45 ?_
      obtain ⟨r2, hu, hf⟩ := gg_c1_x hf
      refine gg_callV (wr := [(q, .inr (7, [.ref q_text, .int f_textLength, .ref q_reader, .ref q_lived, .ref q_carpets, .ref q_acts, .ref q_slots, .ref q_slotFilled, .ref q_evening, .ref q_planner, .ref q_chances, .long f_seedNow]))]) (w2 := fun _ => [(q, .inr (7, [.ref q_text, .int f_textLength, .ref q_reader, .ref q_lived, .ref q_carpets, .ref q_acts, .ref q_slots, .ref q_slotFilled, .ref q_evening, .ref q_planner, .ref q_chances, .long f_seedNow])), (q_lived, .inr (4, [.int f_lived_rooms, .int f_lived_people, .int f_lived_quarrels, .ref q_lived_needs, .ref q_lived_roomOf, .ref q_lived_colourOf, .ref q_lived_grudgeOf, .ref q_lived_tenthsOf, .ref q_lived_quarrelOf])), (q_lived_colourOf, .inl (cI, 5, .inl f_lived_colourOf)), (q_evening, .inr (3, [.ref q_evening_told])), (q_evening_told, .inl (cI, 4, .inl f_evening_told))]) ⟨hx, hb, hml, hown, hts⟩ (mX3_surelyAway l D cI cJ cZ cR q_evening q_evening_told q_lived q_lived_colourOf q_lived_needs q_lived_roomOf q_lived_grudgeOf q_lived_tenthsOf q_lived_quarrelOf f_evening_told f_lived_rooms f_lived_people f_lived_quarrels f_lived_colourOf  r2 hu) (cwV 1 hts gX7_who_X3_surelyAway rfl rfl rfl (by decide +kernel) ⟨Nat.le_of_ble_eq_true rfl, Nat.le_of_ble_eq_true rfl⟩) hK hP hD hS hA 3 rfl rfl rfl rfl hl.1 rfl (Nat.le_of_ble_eq_true rfl) dX7_who_48 ⟨Nat.le_of_ble_eq_true rfl, Nat.le_of_ble_eq_true rfl⟩ [3, 4, 1, 2] [0] rfl rfl rfl rfl rfl [0, 3, 4, 1, 2] rfl (fun _ => rfl) (fun _ H locs hP hD hS => ?_)
      refine gg_st_i ?_
      cases hf
      rw [hQ]
      exact gg_iret hx hb hr hlocks hS (Nat.le_of_ble_eq_true rfl) (Nat.le_of_ble_eq_true rfl) dX7_who_51 () rfl hP hD
    · replace hf := gg_neg hf hs1
      by_cases hs2 : x1 = (2 : Int32)
      · replace hf := gg_pos hf hs2
        refine lv_tableIn (tgt := 52) hx hb dX7_who_1 (by rw [hs2]; decide) (by rw [hs2]; decide) (by rw [hs2]; rfl) (by decide) ?_
        refine lv_aload_n hx hb dX7_who_52 rfl (lv_at hl 0 rfl) ?_
        refine gg_get hx hb hts iX7 hown hK hP 0 rfl rfl 8 (by decide) k57 rfl rfl dX7_who_53 ?_
        refine lv_aload_n hx hb dX7_who_56 rfl (lv_at hl 0 rfl) ?_
        refine gg_get hx hb hts iX7 hown hK hP 0 rfl rfl 3 (by decide) k27 rfl rfl dX7_who_57 ?_
        obtain ⟨r3, hu, hf⟩ := gg_c1_x hf
        refine gg_callV (wr := [(q, .inr (7, [.ref q_text, .int f_textLength, .ref q_reader, .ref q_lived, .ref q_carpets, .ref q_acts, .ref q_slots, .ref q_slotFilled, .ref q_evening, .ref q_planner, .ref q_chances, .long f_seedNow]))]) (w2 := fun _ => [(q, .inr (7, [.ref q_text, .int f_textLength, .ref q_reader, .ref q_lived, .ref q_carpets, .ref q_acts, .ref q_slots, .ref q_slotFilled, .ref q_evening, .ref q_planner, .ref q_chances, .long f_seedNow])), (q_lived, .inr (4, [.int f_lived_rooms, .int f_lived_people, .int f_lived_quarrels, .ref q_lived_needs, .ref q_lived_roomOf, .ref q_lived_colourOf, .ref q_lived_grudgeOf, .ref q_lived_tenthsOf, .ref q_lived_quarrelOf])), (q_lived_colourOf, .inl (cI, 5, .inl f_lived_colourOf)), (q_evening, .inr (3, [.ref q_evening_told])), (q_evening_told, .inl (cI, 4, .inl f_evening_told))]) ⟨hx, hb, hml, hown, hts⟩ (mX3_surelyCame l D cI cJ cZ cR q_evening q_evening_told q_lived q_lived_colourOf q_lived_needs q_lived_roomOf q_lived_grudgeOf q_lived_tenthsOf q_lived_quarrelOf f_evening_told f_lived_rooms f_lived_people f_lived_quarrels f_lived_colourOf  r3 hu) (cwV 1 hts gX7_who_X3_surelyCame rfl rfl rfl (by decide +kernel) ⟨Nat.le_of_ble_eq_true rfl, Nat.le_of_ble_eq_true rfl⟩) hK hP hD hS hA 3 rfl rfl rfl rfl hl.1 rfl (Nat.le_of_ble_eq_true rfl) dX7_who_60 ⟨Nat.le_of_ble_eq_true rfl, Nat.le_of_ble_eq_true rfl⟩ [3, 4, 1, 2] [0] rfl rfl rfl rfl rfl [0, 3, 4, 1, 2] rfl (fun _ => rfl) (fun _ H locs hP hD hS => ?_)
        refine gg_st_i ?_
        cases hf
        rw [hQ]
        exact gg_iret hx hb hr hlocks hS (Nat.le_of_ble_eq_true rfl) (Nat.le_of_ble_eq_true rfl) dX7_who_63 () rfl hP hD
      · replace hf := gg_neg hf hs2
        refine lv_tableOut (tgt := 64) hx hb dX7_who_1 (by have e0 := gg_i hs0 (k := 0) (by decide); have e1 := gg_i hs1 (k := 1) (by decide); have e2 := gg_i hs2 (k := 2) (by decide); omega) (by decide) ?_
        refine lv_bipush (v := (-2 : Int32)) hx hb dX7_who_64 (by decide) ?_
        cases hf
        rw [hQ]
        exact gg_iret hx hb hr hlocks hS (Nat.le_of_ble_eq_true rfl) (Nat.le_of_ble_eq_true rfl) dX7_who_66 () rfl hP hD
