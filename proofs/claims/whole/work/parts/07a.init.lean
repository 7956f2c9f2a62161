/-! ===== making: arrays of the known classes ===== -/
section GGN
variable {p : Program} {l : Launch} {e : Env} {R : Room} {s : State} {m : MethodId} {args : Array Value} {below : List Frame} {meth : Method} {c : Code} {H : Heap} {locs : List Loc} {cells slots : Nat} {Q : State → Prop}
variable {cc : ByteArray} {pc : Nat} {ls : Array Slot} {rest : List Value} {D : va_G} {cl : List vw_C} {A : Nat → Prop} {ws : va_W} {H0 : Heap} {nest : List (String × Nat × MethodName × String)} {cI cJ cZ cR : ClassId}
theorem gg_newI (hexec : p.tables.exec = Jvm.exec) (hb : c.code = cc) (harr : (Cond.arrayClass .int).before args s = true) (hK : gg_K nest D cl (gg_T cI cJ cZ cR) s) (hP : va_P D cl ws H) (hD : va_D A ws) (hS : va_S A H0 H locs) (hA : ∀ q, H0.size ≤ q → A q) {n : Int32} {N : Nat} (hz : n = n) (hn : ¬ n < 0) (hN : n.toNatClampNeg = N) (hbytes : N * componentBytes .int ≤ 536870912) (hcells : cells + 1 ≤ R.cells) (hslots : slots + N ≤ R.slots) (hdg : decode cc pc = .ok (.newarray .int, 2))
    (kk : ∀ (q : Nat) (H1 : Heap), va_P D cl (ws ++ [(q, .inl (cI, N, .inl (fun _ => (0 : Int32))))]) H1 → va_D A (ws ++ [(q, .inl (cI, N, .inl (fun _ => (0 : Int32))))]) → va_S A H0 H1 locs → W p l e R s m args below meth c H1 locs (cells + 1) (slots + N) Q (F0 m (pc + 2) ls (.ref q :: rest))) : W p l e R s m args below meth c H locs cells slots Q (F0 m pc ls (.int n :: rest)) := by
  refine va_newa (atype := .int) (ty := .int) (a0 := (N, .inl (fun _ => (0 : Int32)))) hexec hb harr rfl hK.1 hP hD hS hA (fun cA => vp_cell_i ..) hn hN hbytes hcells hslots hdg (fun q cA H1 hK1 h1 h2 h3 => ?_)
  have e1 := (hK1.2 4 (cA, .int) rfl).2
  have e2 := (hK.1.2 0 (cI, .int) rfl).2
  have e3 : cA = cI := Option.some.inj (e1.symm.trans e2)
  subst e3
  exact kk q H1 h1 h2 h3
theorem gg_newJ (hexec : p.tables.exec = Jvm.exec) (hb : c.code = cc) (harr : (Cond.arrayClass .long).before args s = true) (hK : gg_K nest D cl (gg_T cI cJ cZ cR) s) (hP : va_P D cl ws H) (hD : va_D A ws) (hS : va_S A H0 H locs) (hA : ∀ q, H0.size ≤ q → A q) {n : Int32} {N : Nat} (hz : n = n) (hn : ¬ n < 0) (hN : n.toNatClampNeg = N) (hbytes : N * componentBytes .long ≤ 536870912) (hcells : cells + 1 ≤ R.cells) (hslots : slots + N ≤ R.slots) (hdg : decode cc pc = .ok (.newarray .long, 2))
    (kk : ∀ (q : Nat) (H1 : Heap), va_P D cl (ws ++ [(q, .inl (cJ, N, .inr (.inl (fun _ => (0 : Int64)))))]) H1 → va_D A (ws ++ [(q, .inl (cJ, N, .inr (.inl (fun _ => (0 : Int64)))))]) → va_S A H0 H1 locs → W p l e R s m args below meth c H1 locs (cells + 1) (slots + N) Q (F0 m (pc + 2) ls (.ref q :: rest))) : W p l e R s m args below meth c H locs cells slots Q (F0 m pc ls (.int n :: rest)) := by
  refine va_newa (atype := .long) (ty := .long) (a0 := (N, .inr (.inl (fun _ => (0 : Int64))))) hexec hb harr rfl hK.1 hP hD hS hA (fun cA => vp_cell_l ..) hn hN hbytes hcells hslots hdg (fun q cA H1 hK1 h1 h2 h3 => ?_)
  have e1 := (hK1.2 4 (cA, .long) rfl).2
  have e2 := (hK.1.2 1 (cJ, .long) rfl).2
  have e3 : cA = cJ := Option.some.inj (e1.symm.trans e2)
  subst e3
  exact kk q H1 h1 h2 h3
theorem gg_newZ (hexec : p.tables.exec = Jvm.exec) (hb : c.code = cc) (harr : (Cond.arrayClass .boolean).before args s = true) (hK : gg_K nest D cl (gg_T cI cJ cZ cR) s) (hP : va_P D cl ws H) (hD : va_D A ws) (hS : va_S A H0 H locs) (hA : ∀ q, H0.size ≤ q → A q) {n : Int32} {N : Nat} (hz : n = n) (hn : ¬ n < 0) (hN : n.toNatClampNeg = N) (hbytes : N * componentBytes .boolean ≤ 536870912) (hcells : cells + 1 ≤ R.cells) (hslots : slots + N ≤ R.slots) (hdg : decode cc pc = .ok (.newarray .boolean, 2))
    (kk : ∀ (q : Nat) (H1 : Heap), va_P D cl (ws ++ [(q, .inl (cZ, N, .inl (fun _ => (0 : Int32))))]) H1 → va_D A (ws ++ [(q, .inl (cZ, N, .inl (fun _ => (0 : Int32))))]) → va_S A H0 H1 locs → W p l e R s m args below meth c H1 locs (cells + 1) (slots + N) Q (F0 m (pc + 2) ls (.ref q :: rest))) : W p l e R s m args below meth c H locs cells slots Q (F0 m pc ls (.int n :: rest)) := by
  refine va_newa (atype := .boolean) (ty := .boolean) (a0 := (N, .inl (fun _ => (0 : Int32)))) hexec hb harr rfl hK.1 hP hD hS hA (fun cA => vp_cell_i ..) hn hN hbytes hcells hslots hdg (fun q cA H1 hK1 h1 h2 h3 => ?_)
  have e1 := (hK1.2 4 (cA, .boolean) rfl).2
  have e2 := (hK.1.2 2 (cZ, .boolean) rfl).2
  have e3 : cA = cZ := Option.some.inj (e1.symm.trans e2)
  subst e3
  exact kk q H1 h1 h2 h3

theorem gg_flat {X : va_W} {f : Nat → va_E} {D : va_G} {cl : List vw_C} {H : Heap} (h : va_P D cl X H) : va_P D cl (X ++ va_pl [] f) H := by
  unfold va_pl; simpa using h
theorem gg_flatD {X : va_W} {f : Nat → va_E} {A : Nat → Prop} (h : va_D A X) : va_D A (X ++ va_pl [] f) := by
  unfold va_pl; simpa using h
theorem gg_mnaN {X : va_W} {own : String} {index : Nat} (N' : Nat) (hexec : p.tables.exec = Jvm.exec) (hb : c.code = cc) (hown : s.vm.findClass own = some m.cls) (hcl : (Cond.classLink own index "[[I").before args s = true) (harr : (Cond.arrayClass .int).before args s = true) (hK : gg_K nest D cl (gg_T cI cJ cZ cR) s) (hP : va_P D cl X H) (hD : va_D A X) (hS : va_S A H0 H locs) (hA : ∀ q, H0.size ≤ q → A q) {n k : Int32} (hn : ¬ n < 0) (hN : n.toNatClampNeg = N') (hk : ¬ k < 0) (hM : k.toNatClampNeg = 97) (hb1 : N' * 4 ≤ 536870912) (hcells : cells + (1 + N') ≤ R.cells) (hslots : slots + (N' + N' * 97) ≤ R.slots) (hdg : decode cc pc = .ok (.multianewarray index 2, 4))
    (kk : ∀ (q : Nat) (r : Nat → Nat) (H1 : Heap), va_P D cl ((X ++ [(q, .inl (cR, N', .inr (.inr (.inr (.inr (gg_g ((List.range N').map r)))))))]) ++ (List.range N').map (fun i => (r i, .inl (cI, 97, .inl (fun _ => (0 : Int32)))))) H1 → va_D A ((X ++ [(q, .inl (cR, N', .inr (.inr (.inr (.inr (gg_g ((List.range N').map r)))))))]) ++ (List.range N').map (fun i => (r i, .inl (cI, 97, .inl (fun _ => (0 : Int32)))))) → va_S A H0 H1 locs →
      W p l e R s m args below meth c H1 locs (cells + 1 + N') (slots + N' + N' * 97) Q (F0 m (pc + 4) ls (.ref q :: rest))) : W p l e R s m args below meth c H locs cells slots Q (F0 m pc ls (.int k :: .int n :: rest)) := by
  have e2 : s.vm.findClass (FieldType.array .int).toString = some cI := (hK.1.2 0 (cI, .int) rfl).2
  have e4 : s.vm.findClass ("[" ++ (FieldType.array .int).toString) = some cR := (hK.1.2 3 (cR, .array .int) rfl).2
  have hcl2 : (Cond.classLink own index ("[" ++ (FieldType.array .int).toString)).before args s = true := by
    rw [show ("[" ++ (FieldType.array .int).toString) = "[[I" from by decide]; exact hcl
  refine va_mna (X := X) (L := []) (f := fun _ => .inr (0, [])) (ty := .int) (cy := cI) (N' := N') (K' := 97) (z := (97, .inl (fun _ => (0 : Int32)))) hexec hb hown hcl2 hK.2.2 harr e2 hK.1 (gg_flat hP) (gg_flatD hD) hS hA hn hk hN hM hb1 (Nat.le_of_ble_eq_true rfl) (Nat.le_of_ble_eq_true rfl) rfl rfl hcells hslots (fun cA => ?_) hdg (fun q r cA H1 h1 h2 h3 h4 h5 h6 => ?_)
  · rw [vp_cell_i, ← arrV_new]; rfl
  · have e5 := (h3.2 4 (cA, .array .int) rfl).2
    have e6 : cA = cR := Option.some.inj (e5.symm.trans e4)
    subst e6
    have e7 : (fun i => if i < N' then some (r i) else none) = gg_g ((List.range N').map r) := by
      funext i
      unfold gg_g
      by_cases hi : i < N'
      · simp [hi]
      · simp [hi]
    have e8 : va_pl (([] : List Nat) ++ (List.range N').map r) (vr_up (fun _ => (.inr (0, []) : va_E)) ((List.range N').map r) (.inl (cI, 97, .inl (fun _ => (0 : Int32))))) = (List.range N').map (fun i => (r i, .inl (cI, 97, .inl (fun _ => (0 : Int32))))) := by
      unfold va_pl
      rw [List.nil_append, List.map_map]
      apply List.map_congr_left
      intro i hi
      show (r i, vr_up _ _ _ (r i)) = _
      rw [vr_up_in (List.mem_map.mpr ⟨i, hi, rfl⟩)]
    rw [e7, e8] at h4 h5
    exact kk q r H1 h4 h5 h6
theorem gg_mna16 {X : va_W} {own : String} {index : Nat} (hexec : p.tables.exec = Jvm.exec) (hb : c.code = cc) (hown : s.vm.findClass own = some m.cls) (hcl : (Cond.classLink own index "[[I").before args s = true) (harr : (Cond.arrayClass .int).before args s = true) (hK : gg_K nest D cl (gg_T cI cJ cZ cR) s) (hP : va_P D cl X H) (hD : va_D A X) (hS : va_S A H0 H locs) (hA : ∀ q, H0.size ≤ q → A q) (hcells : cells + 17 ≤ R.cells) (hslots : slots + 1568 ≤ R.slots) (hdg : decode cc pc = .ok (.multianewarray index 2, 4))
    (kk : ∀ (q r0 r1 r2 r3 r4 r5 r6 r7 r8 r9 r10 r11 r12 r13 r14 r15 : Nat) (H1 : Heap), va_P D cl ((X ++ [(q, .inl (cR, 16, .inr (.inr (.inr (.inr (gg_g [r0, r1, r2, r3, r4, r5, r6, r7, r8, r9, r10, r11, r12, r13, r14, r15]))))))]) ++ [(r0, .inl (cI, 97, .inl (fun _ => (0 : Int32)))), (r1, .inl (cI, 97, .inl (fun _ => (0 : Int32)))), (r2, .inl (cI, 97, .inl (fun _ => (0 : Int32)))), (r3, .inl (cI, 97, .inl (fun _ => (0 : Int32)))), (r4, .inl (cI, 97, .inl (fun _ => (0 : Int32)))), (r5, .inl (cI, 97, .inl (fun _ => (0 : Int32)))), (r6, .inl (cI, 97, .inl (fun _ => (0 : Int32)))), (r7, .inl (cI, 97, .inl (fun _ => (0 : Int32)))), (r8, .inl (cI, 97, .inl (fun _ => (0 : Int32)))), (r9, .inl (cI, 97, .inl (fun _ => (0 : Int32)))), (r10, .inl (cI, 97, .inl (fun _ => (0 : Int32)))), (r11, .inl (cI, 97, .inl (fun _ => (0 : Int32)))), (r12, .inl (cI, 97, .inl (fun _ => (0 : Int32)))), (r13, .inl (cI, 97, .inl (fun _ => (0 : Int32)))), (r14, .inl (cI, 97, .inl (fun _ => (0 : Int32)))), (r15, .inl (cI, 97, .inl (fun _ => (0 : Int32))))]) H1 → va_D A ((X ++ [(q, .inl (cR, 16, .inr (.inr (.inr (.inr (gg_g [r0, r1, r2, r3, r4, r5, r6, r7, r8, r9, r10, r11, r12, r13, r14, r15]))))))]) ++ [(r0, .inl (cI, 97, .inl (fun _ => (0 : Int32)))), (r1, .inl (cI, 97, .inl (fun _ => (0 : Int32)))), (r2, .inl (cI, 97, .inl (fun _ => (0 : Int32)))), (r3, .inl (cI, 97, .inl (fun _ => (0 : Int32)))), (r4, .inl (cI, 97, .inl (fun _ => (0 : Int32)))), (r5, .inl (cI, 97, .inl (fun _ => (0 : Int32)))), (r6, .inl (cI, 97, .inl (fun _ => (0 : Int32)))), (r7, .inl (cI, 97, .inl (fun _ => (0 : Int32)))), (r8, .inl (cI, 97, .inl (fun _ => (0 : Int32)))), (r9, .inl (cI, 97, .inl (fun _ => (0 : Int32)))), (r10, .inl (cI, 97, .inl (fun _ => (0 : Int32)))), (r11, .inl (cI, 97, .inl (fun _ => (0 : Int32)))), (r12, .inl (cI, 97, .inl (fun _ => (0 : Int32)))), (r13, .inl (cI, 97, .inl (fun _ => (0 : Int32)))), (r14, .inl (cI, 97, .inl (fun _ => (0 : Int32)))), (r15, .inl (cI, 97, .inl (fun _ => (0 : Int32))))]) → va_S A H0 H1 locs →
      W p l e R s m args below meth c H1 locs (cells + 1 + 16) (slots + 16 + 16 * 97) Q (F0 m (pc + 4) ls (.ref q :: rest))) : W p l e R s m args below meth c H locs cells slots Q (F0 m pc ls (.int 97 :: .int 16 :: rest)) :=
  gg_mnaN 16 hexec hb hown hcl harr hK hP hD hS hA (by decide) (by decide) (by decide) (by decide) (Nat.le_of_ble_eq_true rfl) hcells hslots hdg (fun q r H1 h1 h2 h3 => kk q (r 0) (r 1) (r 2) (r 3) (r 4) (r 5) (r 6) (r 7) (r 8) (r 9) (r 10) (r 11) (r 12) (r 13) (r 14) (r 15) H1 h1 h2 h3)
theorem gg_mna2 {X : va_W} {own : String} {index : Nat} (hexec : p.tables.exec = Jvm.exec) (hb : c.code = cc) (hown : s.vm.findClass own = some m.cls) (hcl : (Cond.classLink own index "[[I").before args s = true) (harr : (Cond.arrayClass .int).before args s = true) (hK : gg_K nest D cl (gg_T cI cJ cZ cR) s) (hP : va_P D cl X H) (hD : va_D A X) (hS : va_S A H0 H locs) (hA : ∀ q, H0.size ≤ q → A q) (hcells : cells + 3 ≤ R.cells) (hslots : slots + 196 ≤ R.slots) (hdg : decode cc pc = .ok (.multianewarray index 2, 4))
    (kk : ∀ (q r0 r1 : Nat) (H1 : Heap), va_P D cl ((X ++ [(q, .inl (cR, 2, .inr (.inr (.inr (.inr (gg_g [r0, r1]))))))]) ++ [(r0, .inl (cI, 97, .inl (fun _ => (0 : Int32)))), (r1, .inl (cI, 97, .inl (fun _ => (0 : Int32))))]) H1 → va_D A ((X ++ [(q, .inl (cR, 2, .inr (.inr (.inr (.inr (gg_g [r0, r1]))))))]) ++ [(r0, .inl (cI, 97, .inl (fun _ => (0 : Int32)))), (r1, .inl (cI, 97, .inl (fun _ => (0 : Int32))))]) → va_S A H0 H1 locs →
      W p l e R s m args below meth c H1 locs (cells + 1 + 2) (slots + 2 + 2 * 97) Q (F0 m (pc + 4) ls (.ref q :: rest))) : W p l e R s m args below meth c H locs cells slots Q (F0 m pc ls (.int 97 :: .int 2 :: rest)) :=
  gg_mnaN 2 hexec hb hown hcl harr hK hP hD hS hA (by decide) (by decide) (by decide) (by decide) (Nat.le_of_ble_eq_true rfl) hcells hslots hdg (fun q r H1 h1 h2 h3 => kk q (r 0) (r 1) H1 h1 h2 h3)
theorem gg_mnaW {X : va_W} {own : String} {index : Nat} (N' : Nat) (hexec : p.tables.exec = Jvm.exec) (hb : c.code = cc) (hown : s.vm.findClass own = some m.cls) (hcl : (Cond.classLink own index "[[I").before args s = true) (harr : (Cond.arrayClass .int).before args s = true) (hK : gg_K nest D cl (gg_T cI cJ cZ cR) s) (hP : va_P D cl X H) (hD : va_D A X) (hS : va_S A H0 H locs) (hA : ∀ q, H0.size ≤ q → A q) {n k : Int32} (hn : ¬ n < 0) (hN : n.toNatClampNeg = N') (hk : ¬ k < 0) (hM : k.toNatClampNeg = 124) (hb1 : N' * 4 ≤ 536870912) (hcells : cells + (1 + N') ≤ R.cells) (hslots : slots + (N' + N' * 124) ≤ R.slots) (hdg : decode cc pc = .ok (.multianewarray index 2, 4))
    (kk : ∀ (q : Nat) (r : Nat → Nat) (H1 : Heap), va_P D cl ((X ++ [(q, .inl (cR, N', .inr (.inr (.inr (.inr (gg_g ((List.range N').map r)))))))]) ++ (List.range N').map (fun i => (r i, .inl (cI, 124, .inl (fun _ => (0 : Int32)))))) H1 → va_D A ((X ++ [(q, .inl (cR, N', .inr (.inr (.inr (.inr (gg_g ((List.range N').map r)))))))]) ++ (List.range N').map (fun i => (r i, .inl (cI, 124, .inl (fun _ => (0 : Int32)))))) → va_S A H0 H1 locs →
      W p l e R s m args below meth c H1 locs (cells + 1 + N') (slots + N' + N' * 124) Q (F0 m (pc + 4) ls (.ref q :: rest))) : W p l e R s m args below meth c H locs cells slots Q (F0 m pc ls (.int k :: .int n :: rest)) := by
  have e2 : s.vm.findClass (FieldType.array .int).toString = some cI := (hK.1.2 0 (cI, .int) rfl).2
  have e4 : s.vm.findClass ("[" ++ (FieldType.array .int).toString) = some cR := (hK.1.2 3 (cR, .array .int) rfl).2
  have hcl2 : (Cond.classLink own index ("[" ++ (FieldType.array .int).toString)).before args s = true := by
    rw [show ("[" ++ (FieldType.array .int).toString) = "[[I" from by decide]; exact hcl
  refine va_mna (X := X) (L := []) (f := fun _ => .inr (0, [])) (ty := .int) (cy := cI) (N' := N') (K' := 124) (z := (124, .inl (fun _ => (0 : Int32)))) hexec hb hown hcl2 hK.2.2 harr e2 hK.1 (gg_flat hP) (gg_flatD hD) hS hA hn hk hN hM hb1 (Nat.le_of_ble_eq_true rfl) (Nat.le_of_ble_eq_true rfl) rfl rfl hcells hslots (fun cA => ?_) hdg (fun q r cA H1 h1 h2 h3 h4 h5 h6 => ?_)
  · rw [vp_cell_i, ← arrV_new]; rfl
  · have e5 := (h3.2 4 (cA, .array .int) rfl).2
    have e6 : cA = cR := Option.some.inj (e5.symm.trans e4)
    subst e6
    have e7 : (fun i => if i < N' then some (r i) else none) = gg_g ((List.range N').map r) := by
      funext i
      unfold gg_g
      by_cases hi : i < N'
      · simp [hi]
      · simp [hi]
    have e8 : va_pl (([] : List Nat) ++ (List.range N').map r) (vr_up (fun _ => (.inr (0, []) : va_E)) ((List.range N').map r) (.inl (cI, 124, .inl (fun _ => (0 : Int32))))) = (List.range N').map (fun i => (r i, .inl (cI, 124, .inl (fun _ => (0 : Int32))))) := by
      unfold va_pl
      rw [List.nil_append, List.map_map]
      apply List.map_congr_left
      intro i hi
      show (r i, vr_up _ _ _ (r i)) = _
      rw [vr_up_in (List.mem_map.mpr ⟨i, hi, rfl⟩)]
    rw [e7, e8] at h4 h5
    exact kk q r H1 h4 h5 h6
theorem gg_mna7 {X : va_W} {own : String} {index : Nat} (hexec : p.tables.exec = Jvm.exec) (hb : c.code = cc) (hown : s.vm.findClass own = some m.cls) (hcl : (Cond.classLink own index "[[I").before args s = true) (harr : (Cond.arrayClass .int).before args s = true) (hK : gg_K nest D cl (gg_T cI cJ cZ cR) s) (hP : va_P D cl X H) (hD : va_D A X) (hS : va_S A H0 H locs) (hA : ∀ q, H0.size ≤ q → A q) (hcells : cells + 8 ≤ R.cells) (hslots : slots + 875 ≤ R.slots) (hdg : decode cc pc = .ok (.multianewarray index 2, 4))
    (kk : ∀ (q r0 r1 r2 r3 r4 r5 r6 : Nat) (H1 : Heap), va_P D cl ((X ++ [(q, .inl (cR, 7, .inr (.inr (.inr (.inr (gg_g [r0, r1, r2, r3, r4, r5, r6]))))))]) ++ [(r0, .inl (cI, 124, .inl (fun _ => (0 : Int32)))), (r1, .inl (cI, 124, .inl (fun _ => (0 : Int32)))), (r2, .inl (cI, 124, .inl (fun _ => (0 : Int32)))), (r3, .inl (cI, 124, .inl (fun _ => (0 : Int32)))), (r4, .inl (cI, 124, .inl (fun _ => (0 : Int32)))), (r5, .inl (cI, 124, .inl (fun _ => (0 : Int32)))), (r6, .inl (cI, 124, .inl (fun _ => (0 : Int32))))]) H1 → va_D A ((X ++ [(q, .inl (cR, 7, .inr (.inr (.inr (.inr (gg_g [r0, r1, r2, r3, r4, r5, r6]))))))]) ++ [(r0, .inl (cI, 124, .inl (fun _ => (0 : Int32)))), (r1, .inl (cI, 124, .inl (fun _ => (0 : Int32)))), (r2, .inl (cI, 124, .inl (fun _ => (0 : Int32)))), (r3, .inl (cI, 124, .inl (fun _ => (0 : Int32)))), (r4, .inl (cI, 124, .inl (fun _ => (0 : Int32)))), (r5, .inl (cI, 124, .inl (fun _ => (0 : Int32)))), (r6, .inl (cI, 124, .inl (fun _ => (0 : Int32))))]) → va_S A H0 H1 locs →
      W p l e R s m args below meth c H1 locs (cells + 1 + 7) (slots + 7 + 7 * 124) Q (F0 m (pc + 4) ls (.ref q :: rest))) : W p l e R s m args below meth c H locs cells slots Q (F0 m pc ls (.int 124 :: .int 7 :: rest)) :=
  gg_mnaW 7 hexec hb hown hcl harr hK hP hD hS hA (by decide) (by decide) (by decide) (by decide) (Nat.le_of_ble_eq_true rfl) hcells hslots hdg (fun q r H1 h1 h2 h3 => kk q (r 0) (r 1) (r 2) (r 3) (r 4) (r 5) (r 6) H1 h1 h2 h3)
end GGN
noncomputable def pX4_init : Option (Int32 × Int32 × Int32 × (Nat → Int32) × (Nat → Int32) × (Nat → Int32) × (Nat → Int32) × (Nat → Int32) × (Nat → Int32)) := some ((0 : Int32), (0 : Int32), (0 : Int32), (fun _ => (0 : Int32)), (fun _ => (0 : Int32)), (fun _ => (0 : Int32)), (fun _ => (0 : Int32)), (fun _ => (0 : Int32)), (fun _ => (0 : Int32)))
set_option maxHeartbeats 4000000 in
set_option maxRecDepth 100000 in
theorem mX4_init (l : Launch) (D : va_G) (cI cJ cZ cR : ClassId) (q : Nat) (o0 : Int32) (o1 : Int32) (o2 : Int32) (o3 : (Nat → Int32)) (o4 : (Nat → Int32)) (o5 : (Nat → Int32)) (o6 : (Nat → Int32)) (o7 : (Nat → Int32)) (o8 : (Nat → Int32)) (hf : pX4_init = some (o0, o1, o2, o3, o4, o5, o6, o7, o8)) : gg_M gN vwCl (gg_T cI cJ cZ cR) l D yX4_init wsX4_init ({ frames := 1, cells := 6, slots := 48, locals := 12 } : Room) [.ref q] [(q, .inr (4, [.int (0 : Int32), .int (0 : Int32), .int (0 : Int32), .null, .null, .null, .null, .null, .null]))] (fun _ : Nat × Nat × Nat × Nat × Nat × Nat => none) (fun i => [(q, .inr (4, [.int o0, .int o1, .int o2, .ref i.1, .ref i.2.1, .ref i.2.2.1, .ref i.2.2.2.1, .ref i.2.2.2.2.1, .ref i.2.2.2.2.2])), (i.1, .inl (cI, 3, .inl o3)), (i.2.1, .inl (cI, 5, .inl o4)), (i.2.2.1, .inl (cI, 5, .inl o5)), (i.2.2.2.1, .inl (cI, 5, .inl o6)), (i.2.2.2.2.1, .inl (cI, 5, .inl o7)), (i.2.2.2.2.2, .inl (cI, 25, .inl o8))]) := by
  refine gg_M.of (cc := cX4_init) (maxL := 1) (rt := none) (by decide) rfl (Nat.le_of_ble_eq_true rfl) ?_
  intro p e s m below meth c A args Q hQ hx hb hr hml hts hown hlocks hin hA hS hP hK hD ls hl
  replace hown : s.vm.findClass RX4 = some m.cls := hown
  replace hl : lv_has ls 1 [(0, .ref q)] := hl
  have k9 := (hts (.fieldLink RX4 9 "AbsentCarpets$House" "rooms" "I") (List.mem_of_getElem? (i := 4) rfl))
  have k15 := (hts (.fieldLink RX4 15 "AbsentCarpets$House" "people" "I") (List.mem_of_getElem? (i := 5) rfl))
  have k18 := (hts (.fieldLink RX4 18 "AbsentCarpets$House" "quarrels" "I") (List.mem_of_getElem? (i := 6) rfl))
  have k21 := (hts (.fieldLink RX4 21 "AbsentCarpets$House" "needs" "[I") (List.mem_of_getElem? (i := 8) rfl))
  have k25 := (hts (.fieldLink RX4 25 "AbsentCarpets$House" "roomOf" "[I") (List.mem_of_getElem? (i := 9) rfl))
  have k28 := (hts (.fieldLink RX4 28 "AbsentCarpets$House" "colourOf" "[I") (List.mem_of_getElem? (i := 10) rfl))
  have k31 := (hts (.fieldLink RX4 31 "AbsentCarpets$House" "grudgeOf" "[I") (List.mem_of_getElem? (i := 11) rfl))
  have k34 := (hts (.fieldLink RX4 34 "AbsentCarpets$House" "tenthsOf" "[I") (List.mem_of_getElem? (i := 12) rfl))
  have k37 := (hts (.fieldLink RX4 37 "AbsentCarpets$House" "quarrelOf" "[I") (List.mem_of_getElem? (i := 13) rfl))
  have iX4 : ∀ w ∈ wsX40, w ∈ wsX4_init := fun _ h => List.mem_cons_of_mem _ (List.mem_append_right _ (h))
  unfold pX4_init at hf
  refine lv_aload_n hx hb dX4_init_0 rfl (lv_at hl 0 rfl) ?_
  refine W.objInit hx hb hown (hts (.methodLink RX4 3 objectInit) (List.mem_of_getElem? (i := 1) rfl)) (hts (.instanceMethod objectInit) (List.mem_of_getElem? (i := 2) rfl)) (hts (.code objectInit ⟨#[0xb1]⟩ 1 none) (List.mem_of_getElem? (i := 3) rfl)) rfl (by rw [hml]; exact hl.1) rfl dX4_init_1 (Nat.le_of_ble_eq_true rfl) (Nat.le_of_ble_eq_true rfl) ?_
  refine W.eq (g2 := F0 m 4 ls []) rfl ?_
  refine lv_aload_n hx hb dX4_init_4 rfl (lv_at hl 0 rfl) ?_
  refine lv_iconst (v := (0 : Int32)) hx hb dX4_init_5 (by decide) ?_
  refine gg_put (ws' := [(q, .inr (4, [.int (0 : Int32), .int (0 : Int32), .int (0 : Int32), .null, .null, .null, .null, .null, .null]))]) hx hb hts iX4 tyX4_ok nmX4 hown hK hP hD hS 0 rfl rfl 0 (by decide) k9 rfl rfl rfl rfl rfl (Nat.le_of_ble_eq_true rfl) dX4_init_6 rfl (fun H locs hP hD hS => ?_)
  refine lv_aload_n hx hb dX4_init_9 rfl (lv_at hl 0 rfl) ?_
  refine lv_iconst (v := (0 : Int32)) hx hb dX4_init_10 (by decide) ?_
  refine gg_put (ws' := [(q, .inr (4, [.int (0 : Int32), .int (0 : Int32), .int (0 : Int32), .null, .null, .null, .null, .null, .null]))]) hx hb hts iX4 tyX4_ok nmX4 hown hK hP hD hS 0 rfl rfl 1 (by decide) k15 rfl rfl rfl rfl rfl (Nat.le_of_ble_eq_true rfl) dX4_init_11 rfl (fun H locs hP hD hS => ?_)
  refine lv_aload_n hx hb dX4_init_14 rfl (lv_at hl 0 rfl) ?_
  refine lv_iconst (v := (0 : Int32)) hx hb dX4_init_15 (by decide) ?_
  refine gg_put (ws' := [(q, .inr (4, [.int (0 : Int32), .int (0 : Int32), .int (0 : Int32), .null, .null, .null, .null, .null, .null]))]) hx hb hts iX4 tyX4_ok nmX4 hown hK hP hD hS 0 rfl rfl 2 (by decide) k18 rfl rfl rfl rfl rfl (Nat.le_of_ble_eq_true rfl) dX4_init_16 rfl (fun H locs hP hD hS => ?_)
  refine lv_aload_n hx hb dX4_init_19 rfl (lv_at hl 0 rfl) ?_
  refine lv_iconst (v := (3 : Int32)) hx hb dX4_init_20 (by decide) ?_
  refine gg_newI (N := 3) hx hb (hts (.arrayClass .int) (List.mem_of_getElem? (i := 7) rfl)) hK hP hD hS hA rfl (by decide) (by decide) (Nat.le_of_ble_eq_true rfl) (Nat.le_of_ble_eq_true rfl) (Nat.le_of_ble_eq_true rfl) dX4_init_21 (fun n0_a H hP hD hS => ?_)
  replace hP : va_P D vwCl [(q, .inr (4, [.int (0 : Int32), .int (0 : Int32), .int (0 : Int32), .null, .null, .null, .null, .null, .null])), (n0_a, .inl (cI, 3, .inl (fun _ => (0 : Int32))))] H := hP
  replace hD : va_D A [(q, .inr (4, [.int (0 : Int32), .int (0 : Int32), .int (0 : Int32), .null, .null, .null, .null, .null, .null])), (n0_a, .inl (cI, 3, .inl (fun _ => (0 : Int32))))] := hD
  refine W.widen (k := 1) (n := 3) (Nat.le_of_ble_eq_true rfl) (Nat.le_of_ble_eq_true rfl) ?_
  refine gg_putF (ws' := [(q, .inr (4, [.int (0 : Int32), .int (0 : Int32), .int (0 : Int32), .ref n0_a, .null, .null, .null, .null, .null])), (n0_a, .inl (cI, 3, .inl (fun _ => (0 : Int32))))]) hx hb hts iX4 tyX4_ok nmX4 hown hK hP hD hS 0 rfl rfl 3 (by decide) k21 rfl rfl hin rfl rfl rfl rfl (Nat.le_of_ble_eq_true rfl) dX4_init_23 rfl (fun H locs hP hD hS => ?_)
  refine lv_aload_n hx hb dX4_init_26 rfl (lv_at hl 0 rfl) ?_
  refine lv_iconst (v := (5 : Int32)) hx hb dX4_init_27 (by decide) ?_
  refine gg_newI (N := 5) hx hb (hts (.arrayClass .int) (List.mem_of_getElem? (i := 7) rfl)) hK hP hD hS hA rfl (by decide) (by decide) (Nat.le_of_ble_eq_true rfl) (Nat.le_of_ble_eq_true rfl) (Nat.le_of_ble_eq_true rfl) dX4_init_28 (fun n1_a H hP hD hS => ?_)
  replace hP : va_P D vwCl [(q, .inr (4, [.int (0 : Int32), .int (0 : Int32), .int (0 : Int32), .ref n0_a, .null, .null, .null, .null, .null])), (n0_a, .inl (cI, 3, .inl (fun _ => (0 : Int32)))), (n1_a, .inl (cI, 5, .inl (fun _ => (0 : Int32))))] H := hP
  replace hD : va_D A [(q, .inr (4, [.int (0 : Int32), .int (0 : Int32), .int (0 : Int32), .ref n0_a, .null, .null, .null, .null, .null])), (n0_a, .inl (cI, 3, .inl (fun _ => (0 : Int32)))), (n1_a, .inl (cI, 5, .inl (fun _ => (0 : Int32))))] := hD
  refine W.widen (k := 2) (n := 8) (Nat.le_of_ble_eq_true rfl) (Nat.le_of_ble_eq_true rfl) ?_
  refine gg_putF (ws' := [(q, .inr (4, [.int (0 : Int32), .int (0 : Int32), .int (0 : Int32), .ref n0_a, .ref n1_a, .null, .null, .null, .null])), (n0_a, .inl (cI, 3, .inl (fun _ => (0 : Int32)))), (n1_a, .inl (cI, 5, .inl (fun _ => (0 : Int32))))]) hx hb hts iX4 tyX4_ok nmX4 hown hK hP hD hS 0 rfl rfl 4 (by decide) k25 rfl rfl hin rfl rfl rfl rfl (Nat.le_of_ble_eq_true rfl) dX4_init_30 rfl (fun H locs hP hD hS => ?_)
  refine lv_aload_n hx hb dX4_init_33 rfl (lv_at hl 0 rfl) ?_
  refine lv_iconst (v := (5 : Int32)) hx hb dX4_init_34 (by decide) ?_
  refine gg_newI (N := 5) hx hb (hts (.arrayClass .int) (List.mem_of_getElem? (i := 7) rfl)) hK hP hD hS hA rfl (by decide) (by decide) (Nat.le_of_ble_eq_true rfl) (Nat.le_of_ble_eq_true rfl) (Nat.le_of_ble_eq_true rfl) dX4_init_35 (fun n2_a H hP hD hS => ?_)
  replace hP : va_P D vwCl [(q, .inr (4, [.int (0 : Int32), .int (0 : Int32), .int (0 : Int32), .ref n0_a, .ref n1_a, .null, .null, .null, .null])), (n0_a, .inl (cI, 3, .inl (fun _ => (0 : Int32)))), (n1_a, .inl (cI, 5, .inl (fun _ => (0 : Int32)))), (n2_a, .inl (cI, 5, .inl (fun _ => (0 : Int32))))] H := hP
  replace hD : va_D A [(q, .inr (4, [.int (0 : Int32), .int (0 : Int32), .int (0 : Int32), .ref n0_a, .ref n1_a, .null, .null, .null, .null])), (n0_a, .inl (cI, 3, .inl (fun _ => (0 : Int32)))), (n1_a, .inl (cI, 5, .inl (fun _ => (0 : Int32)))), (n2_a, .inl (cI, 5, .inl (fun _ => (0 : Int32))))] := hD
  refine W.widen (k := 3) (n := 13) (Nat.le_of_ble_eq_true rfl) (Nat.le_of_ble_eq_true rfl) ?_
  refine gg_putF (ws' := [(q, .inr (4, [.int (0 : Int32), .int (0 : Int32), .int (0 : Int32), .ref n0_a, .ref n1_a, .ref n2_a, .null, .null, .null])), (n0_a, .inl (cI, 3, .inl (fun _ => (0 : Int32)))), (n1_a, .inl (cI, 5, .inl (fun _ => (0 : Int32)))), (n2_a, .inl (cI, 5, .inl (fun _ => (0 : Int32))))]) hx hb hts iX4 tyX4_ok nmX4 hown hK hP hD hS 0 rfl rfl 5 (by decide) k28 rfl rfl hin rfl rfl rfl rfl (Nat.le_of_ble_eq_true rfl) dX4_init_37 rfl (fun H locs hP hD hS => ?_)
  refine lv_aload_n hx hb dX4_init_40 rfl (lv_at hl 0 rfl) ?_
  refine lv_iconst (v := (5 : Int32)) hx hb dX4_init_41 (by decide) ?_
  refine gg_newI (N := 5) hx hb (hts (.arrayClass .int) (List.mem_of_getElem? (i := 7) rfl)) hK hP hD hS hA rfl (by decide) (by decide) (Nat.le_of_ble_eq_true rfl) (Nat.le_of_ble_eq_true rfl) (Nat.le_of_ble_eq_true rfl) dX4_init_42 (fun n3_a H hP hD hS => ?_)
  replace hP : va_P D vwCl [(q, .inr (4, [.int (0 : Int32), .int (0 : Int32), .int (0 : Int32), .ref n0_a, .ref n1_a, .ref n2_a, .null, .null, .null])), (n0_a, .inl (cI, 3, .inl (fun _ => (0 : Int32)))), (n1_a, .inl (cI, 5, .inl (fun _ => (0 : Int32)))), (n2_a, .inl (cI, 5, .inl (fun _ => (0 : Int32)))), (n3_a, .inl (cI, 5, .inl (fun _ => (0 : Int32))))] H := hP
  replace hD : va_D A [(q, .inr (4, [.int (0 : Int32), .int (0 : Int32), .int (0 : Int32), .ref n0_a, .ref n1_a, .ref n2_a, .null, .null, .null])), (n0_a, .inl (cI, 3, .inl (fun _ => (0 : Int32)))), (n1_a, .inl (cI, 5, .inl (fun _ => (0 : Int32)))), (n2_a, .inl (cI, 5, .inl (fun _ => (0 : Int32)))), (n3_a, .inl (cI, 5, .inl (fun _ => (0 : Int32))))] := hD
  refine W.widen (k := 4) (n := 18) (Nat.le_of_ble_eq_true rfl) (Nat.le_of_ble_eq_true rfl) ?_
  refine gg_putF (ws' := [(q, .inr (4, [.int (0 : Int32), .int (0 : Int32), .int (0 : Int32), .ref n0_a, .ref n1_a, .ref n2_a, .ref n3_a, .null, .null])), (n0_a, .inl (cI, 3, .inl (fun _ => (0 : Int32)))), (n1_a, .inl (cI, 5, .inl (fun _ => (0 : Int32)))), (n2_a, .inl (cI, 5, .inl (fun _ => (0 : Int32)))), (n3_a, .inl (cI, 5, .inl (fun _ => (0 : Int32))))]) hx hb hts iX4 tyX4_ok nmX4 hown hK hP hD hS 0 rfl rfl 6 (by decide) k31 rfl rfl hin rfl rfl rfl rfl (Nat.le_of_ble_eq_true rfl) dX4_init_44 rfl (fun H locs hP hD hS => ?_)
  refine lv_aload_n hx hb dX4_init_47 rfl (lv_at hl 0 rfl) ?_
  refine lv_iconst (v := (5 : Int32)) hx hb dX4_init_48 (by decide) ?_
  refine gg_newI (N := 5) hx hb (hts (.arrayClass .int) (List.mem_of_getElem? (i := 7) rfl)) hK hP hD hS hA rfl (by decide) (by decide) (Nat.le_of_ble_eq_true rfl) (Nat.le_of_ble_eq_true rfl) (Nat.le_of_ble_eq_true rfl) dX4_init_49 (fun n4_a H hP hD hS => ?_)
  replace hP : va_P D vwCl [(q, .inr (4, [.int (0 : Int32), .int (0 : Int32), .int (0 : Int32), .ref n0_a, .ref n1_a, .ref n2_a, .ref n3_a, .null, .null])), (n0_a, .inl (cI, 3, .inl (fun _ => (0 : Int32)))), (n1_a, .inl (cI, 5, .inl (fun _ => (0 : Int32)))), (n2_a, .inl (cI, 5, .inl (fun _ => (0 : Int32)))), (n3_a, .inl (cI, 5, .inl (fun _ => (0 : Int32)))), (n4_a, .inl (cI, 5, .inl (fun _ => (0 : Int32))))] H := hP
  replace hD : va_D A [(q, .inr (4, [.int (0 : Int32), .int (0 : Int32), .int (0 : Int32), .ref n0_a, .ref n1_a, .ref n2_a, .ref n3_a, .null, .null])), (n0_a, .inl (cI, 3, .inl (fun _ => (0 : Int32)))), (n1_a, .inl (cI, 5, .inl (fun _ => (0 : Int32)))), (n2_a, .inl (cI, 5, .inl (fun _ => (0 : Int32)))), (n3_a, .inl (cI, 5, .inl (fun _ => (0 : Int32)))), (n4_a, .inl (cI, 5, .inl (fun _ => (0 : Int32))))] := hD
  refine W.widen (k := 5) (n := 23) (Nat.le_of_ble_eq_true rfl) (Nat.le_of_ble_eq_true rfl) ?_
  refine gg_putF (ws' := [(q, .inr (4, [.int (0 : Int32), .int (0 : Int32), .int (0 : Int32), .ref n0_a, .ref n1_a, .ref n2_a, .ref n3_a, .ref n4_a, .null])), (n0_a, .inl (cI, 3, .inl (fun _ => (0 : Int32)))), (n1_a, .inl (cI, 5, .inl (fun _ => (0 : Int32)))), (n2_a, .inl (cI, 5, .inl (fun _ => (0 : Int32)))), (n3_a, .inl (cI, 5, .inl (fun _ => (0 : Int32)))), (n4_a, .inl (cI, 5, .inl (fun _ => (0 : Int32))))]) hx hb hts iX4 tyX4_ok nmX4 hown hK hP hD hS 0 rfl rfl 7 (by decide) k34 rfl rfl hin rfl rfl rfl rfl (Nat.le_of_ble_eq_true rfl) dX4_init_51 rfl (fun H locs hP hD hS => ?_)
  refine lv_aload_n hx hb dX4_init_54 rfl (lv_at hl 0 rfl) ?_
  refine lv_bipush (v := (25 : Int32)) hx hb dX4_init_55 (by decide) ?_
  refine gg_newI (N := 25) hx hb (hts (.arrayClass .int) (List.mem_of_getElem? (i := 7) rfl)) hK hP hD hS hA rfl (by decide) (by decide) (Nat.le_of_ble_eq_true rfl) (Nat.le_of_ble_eq_true rfl) (Nat.le_of_ble_eq_true rfl) dX4_init_57 (fun n5_a H hP hD hS => ?_)
  replace hP : va_P D vwCl [(q, .inr (4, [.int (0 : Int32), .int (0 : Int32), .int (0 : Int32), .ref n0_a, .ref n1_a, .ref n2_a, .ref n3_a, .ref n4_a, .null])), (n0_a, .inl (cI, 3, .inl (fun _ => (0 : Int32)))), (n1_a, .inl (cI, 5, .inl (fun _ => (0 : Int32)))), (n2_a, .inl (cI, 5, .inl (fun _ => (0 : Int32)))), (n3_a, .inl (cI, 5, .inl (fun _ => (0 : Int32)))), (n4_a, .inl (cI, 5, .inl (fun _ => (0 : Int32)))), (n5_a, .inl (cI, 25, .inl (fun _ => (0 : Int32))))] H := hP
  replace hD : va_D A [(q, .inr (4, [.int (0 : Int32), .int (0 : Int32), .int (0 : Int32), .ref n0_a, .ref n1_a, .ref n2_a, .ref n3_a, .ref n4_a, .null])), (n0_a, .inl (cI, 3, .inl (fun _ => (0 : Int32)))), (n1_a, .inl (cI, 5, .inl (fun _ => (0 : Int32)))), (n2_a, .inl (cI, 5, .inl (fun _ => (0 : Int32)))), (n3_a, .inl (cI, 5, .inl (fun _ => (0 : Int32)))), (n4_a, .inl (cI, 5, .inl (fun _ => (0 : Int32)))), (n5_a, .inl (cI, 25, .inl (fun _ => (0 : Int32))))] := hD
  refine W.widen (k := 6) (n := 48) (Nat.le_of_ble_eq_true rfl) (Nat.le_of_ble_eq_true rfl) ?_
  refine gg_putF (ws' := [(q, .inr (4, [.int (0 : Int32), .int (0 : Int32), .int (0 : Int32), .ref n0_a, .ref n1_a, .ref n2_a, .ref n3_a, .ref n4_a, .ref n5_a])), (n0_a, .inl (cI, 3, .inl (fun _ => (0 : Int32)))), (n1_a, .inl (cI, 5, .inl (fun _ => (0 : Int32)))), (n2_a, .inl (cI, 5, .inl (fun _ => (0 : Int32)))), (n3_a, .inl (cI, 5, .inl (fun _ => (0 : Int32)))), (n4_a, .inl (cI, 5, .inl (fun _ => (0 : Int32)))), (n5_a, .inl (cI, 25, .inl (fun _ => (0 : Int32))))]) hx hb hts iX4 tyX4_ok nmX4 hown hK hP hD hS 0 rfl rfl 8 (by decide) k37 rfl rfl hin rfl rfl rfl rfl (Nat.le_of_ble_eq_true rfl) dX4_init_59 rfl (fun H locs hP hD hS => ?_)
  cases hf
  rw [hQ]
  exact gg_vret hx hb hr hlocks hS (Nat.le_of_ble_eq_true rfl) (Nat.le_of_ble_eq_true rfl) dX4_init_62 (n0_a, n1_a, n2_a, n3_a, n4_a, n5_a) rfl hP hD
noncomputable def pX6_init : Option (Int32 × Int32 × Int32 × Int32 × Int32 × (Nat → Int32) × (Nat → Int32) × (Nat → Int32) × (Nat → Int32) × (Nat → Int32) × (Nat → Int32) × (Nat → Int32)) := gg_c9 (pX4_init) fun u1 u2 u3 u4 u5 u6 u7 u8 u9 => some ((0 : Int32), (0 : Int32), u1, u2, u3, u4, u5, u6, u7, u8, u9, (fun _ => (0 : Int32)))
set_option maxHeartbeats 4000000 in
set_option maxRecDepth 100000 in
theorem mX6_init (l : Launch) (D : va_G) (cI cJ cZ cR : ClassId) (q : Nat) (o0 : Int32) (o1 : Int32) (o2 : Int32) (o3 : Int32) (o4 : Int32) (o5 : (Nat → Int32)) (o6 : (Nat → Int32)) (o7 : (Nat → Int32)) (o8 : (Nat → Int32)) (o9 : (Nat → Int32)) (o10 : (Nat → Int32)) (o11 : (Nat → Int32)) (hf : pX6_init = some (o0, o1, o2, o3, o4, o5, o6, o7, o8, o9, o10, o11)) : gg_M gN vwCl (gg_T cI cJ cZ cR) l D yX6_init wsX6_init ({ frames := 2, cells := 8, slots := 61, locals := 32 } : Room) [.ref q] [(q, .inr (6, [.null, .int (0 : Int32), .null, .int (0 : Int32)]))] (fun _ : Nat × Nat × Nat × Nat × Nat × Nat × Nat × Nat => none) (fun i => [(q, .inr (6, [.ref i.1, .int o0, .ref i.2.2.2.2.2.2.2, .int o1])), (i.1, .inr (4, [.int o2, .int o3, .int o4, .ref i.2.1, .ref i.2.2.1, .ref i.2.2.2.1, .ref i.2.2.2.2.1, .ref i.2.2.2.2.2.1, .ref i.2.2.2.2.2.2.1])), (i.2.1, .inl (cI, 3, .inl o5)), (i.2.2.1, .inl (cI, 5, .inl o6)), (i.2.2.2.1, .inl (cI, 5, .inl o7)), (i.2.2.2.2.1, .inl (cI, 5, .inl o8)), (i.2.2.2.2.2.1, .inl (cI, 5, .inl o9)), (i.2.2.2.2.2.2.1, .inl (cI, 25, .inl o10)), (i.2.2.2.2.2.2.2, .inl (cI, 4, .inl o11))]) := by
  refine gg_M.of (cc := cX6_init) (maxL := 1) (rt := none) (by decide) rfl (Nat.le_of_ble_eq_true rfl) ?_
  intro p e s m below meth c A args Q hQ hx hb hr hml hts hown hlocks hin hA hS hP hK hD ls hl
  replace hown : s.vm.findClass RX6 = some m.cls := hown
  replace hl : lv_has ls 1 [(0, .ref q)] := hl
  have k12 := (hts (.fieldLink RX6 12 "AbsentCarpets$Reader" "draft" "LAbsentCarpets$House;") (List.mem_of_getElem? (i := 7) rfl))
  have k18 := (hts (.fieldLink RX6 18 "AbsentCarpets$Reader" "where" "I") (List.mem_of_getElem? (i := 8) rfl))
  have k22 := (hts (.fieldLink RX6 22 "AbsentCarpets$Reader" "numbers" "[I") (List.mem_of_getElem? (i := 10) rfl))
  have k26 := (hts (.fieldLink RX6 26 "AbsentCarpets$Reader" "read" "I") (List.mem_of_getElem? (i := 11) rfl))
  have iX4 : ∀ w ∈ wsX40, w ∈ wsX6_init := fun _ h => List.mem_cons_of_mem _ (List.mem_append_left _ (List.mem_append_right _ (h)))
  have iX6 : ∀ w ∈ wsX60, w ∈ wsX6_init := fun _ h => List.mem_cons_of_mem _ (List.mem_append_right _ (h))
  unfold pX6_init at hf
  refine lv_aload_n hx hb dX6_init_0 rfl (lv_at hl 0 rfl) ?_
  refine W.objInit hx hb hown (hts (.methodLink RX6 3 objectInit) (List.mem_of_getElem? (i := 1) rfl)) (hts (.instanceMethod objectInit) (List.mem_of_getElem? (i := 2) rfl)) (hts (.code objectInit ⟨#[0xb1]⟩ 1 none) (List.mem_of_getElem? (i := 3) rfl)) rfl (by rw [hml]; exact hl.1) rfl dX6_init_1 (Nat.le_of_ble_eq_true rfl) (Nat.le_of_ble_eq_true rfl) ?_
  refine W.eq (g2 := F0 m 4 ls []) rfl ?_
  refine lv_aload_n hx hb dX6_init_4 rfl (lv_at hl 0 rfl) ?_
  refine va_new (ci := 4) (fs := [.int (0 : Int32), .int (0 : Int32), .int (0 : Int32), .null, .null, .null, .null, .null, .null]) (C := RX4) (T := TX4) (N := 9) hx hb hts iX4 tyX4 tyX4_ok hown (hts (.classLink RX6 9 RX4) (List.mem_of_getElem? (i := 4) rfl)) (hts (.instantiable RX4 9) (List.mem_of_getElem? (i := 5) rfl)) (hts (.initialized RX4) (List.mem_of_getElem? (i := 6) rfl)) hK.1 hP hD hS hA rfl (fun j hj => by rcases (show j = 0 ∨ j = 1 ∨ j = 2 ∨ j = 3 ∨ j = 4 ∨ j = 5 ∨ j = 6 ∨ j = 7 ∨ j = 8 by omega) with rfl | rfl | rfl | rfl | rfl | rfl | rfl | rfl | rfl <;> rfl) (Nat.le_of_ble_eq_true rfl) (Nat.le_of_ble_eq_true rfl) dX6_init_5 (fun n0_o H hP hD hS => ?_)
  replace hP : va_P D vwCl [(q, .inr (6, [.null, .int (0 : Int32), .null, .int (0 : Int32)])), (n0_o, .inr (4, [.int (0 : Int32), .int (0 : Int32), .int (0 : Int32), .null, .null, .null, .null, .null, .null]))] H := hP
  replace hD : va_D A [(q, .inr (6, [.null, .int (0 : Int32), .null, .int (0 : Int32)])), (n0_o, .inr (4, [.int (0 : Int32), .int (0 : Int32), .int (0 : Int32), .null, .null, .null, .null, .null, .null]))] := hD
  refine W.widen (k := 1) (n := 9) (Nat.le_of_ble_eq_true rfl) (Nat.le_of_ble_eq_true rfl) ?_
  refine lv_dup hx hb dX6_init_8 rfl ?_
  obtain ⟨u1, u2, u3, u4, u5, u6, u7, u8, u9, hu, hf⟩ := gg_c9_x hf
  refine gg_callIN (wr := [(q, .inr (6, [.null, .int (0 : Int32), .null, .int (0 : Int32)]))]) (w2 := fun i => [(q, .inr (6, [.null, .int (0 : Int32), .null, .int (0 : Int32)])), (n0_o, .inr (4, [.int u1, .int u2, .int u3, .ref i.1, .ref i.2.1, .ref i.2.2.1, .ref i.2.2.2.1, .ref i.2.2.2.2.1, .ref i.2.2.2.2.2])), (i.1, .inl (cI, 3, .inl u4)), (i.2.1, .inl (cI, 5, .inl u5)), (i.2.2.1, .inl (cI, 5, .inl u6)), (i.2.2.2.1, .inl (cI, 5, .inl u7)), (i.2.2.2.2.1, .inl (cI, 5, .inl u8)), (i.2.2.2.2.2, .inl (cI, 25, .inl u9))]) ⟨hx, hb, hml, hown, hts⟩ (mX4_init l D cI cJ cZ cR n0_o   u1 u2 u3 u4 u5 u6 u7 u8 u9 hu) ⟨va_cnB 0 hts gX6_init_X4_init_n11 rfl rfl rfl (hK.2.1 (RX6, 11, yX4_init, RX7) (List.mem_of_getElem? (i := 1) rfl)) (hts (.initialized RX4) (List.mem_of_getElem? (i := 6) rfl)) (by decide +kernel) ⟨Nat.le_of_ble_eq_true rfl, Nat.le_of_ble_eq_true rfl⟩, rfl, (hts (.instanceMethod yX4_init) (List.mem_of_getElem? (i := 12) rfl))⟩ hK hP hD hS hA rfl hl.1 rfl (Nat.le_of_ble_eq_true rfl) dX6_init_9 ⟨Nat.le_of_ble_eq_true rfl, Nat.le_of_ble_eq_true rfl⟩ [1] [0] rfl rfl rfl rfl rfl [0, 1, 2, 3, 4, 5, 6, 7] rfl (fun _ => rfl) (fun i H locs hP hD hS => ?_)
  obtain ⟨n1_a, n2_a, n3_a, n4_a, n5_a, n6_a⟩ := i
  replace hP : va_P D vwCl [(q, .inr (6, [.null, .int (0 : Int32), .null, .int (0 : Int32)])), (n0_o, .inr (4, [.int u1, .int u2, .int u3, .ref n1_a, .ref n2_a, .ref n3_a, .ref n4_a, .ref n5_a, .ref n6_a])), (n1_a, .inl (cI, 3, .inl u4)), (n2_a, .inl (cI, 5, .inl u5)), (n3_a, .inl (cI, 5, .inl u6)), (n4_a, .inl (cI, 5, .inl u7)), (n5_a, .inl (cI, 5, .inl u8)), (n6_a, .inl (cI, 25, .inl u9))] H := hP
  replace hD : va_D A [(q, .inr (6, [.null, .int (0 : Int32), .null, .int (0 : Int32)])), (n0_o, .inr (4, [.int u1, .int u2, .int u3, .ref n1_a, .ref n2_a, .ref n3_a, .ref n4_a, .ref n5_a, .ref n6_a])), (n1_a, .inl (cI, 3, .inl u4)), (n2_a, .inl (cI, 5, .inl u5)), (n3_a, .inl (cI, 5, .inl u6)), (n4_a, .inl (cI, 5, .inl u7)), (n5_a, .inl (cI, 5, .inl u8)), (n6_a, .inl (cI, 25, .inl u9))] := hD
  refine gg_st_v ?_
  refine W.widen (k := 7) (n := 57) (Nat.le_of_ble_eq_true rfl) (Nat.le_of_ble_eq_true rfl) ?_
  refine gg_put (ws' := [(q, .inr (6, [.ref n0_o, .int (0 : Int32), .null, .int (0 : Int32)])), (n0_o, .inr (4, [.int u1, .int u2, .int u3, .ref n1_a, .ref n2_a, .ref n3_a, .ref n4_a, .ref n5_a, .ref n6_a])), (n1_a, .inl (cI, 3, .inl u4)), (n2_a, .inl (cI, 5, .inl u5)), (n3_a, .inl (cI, 5, .inl u6)), (n4_a, .inl (cI, 5, .inl u7)), (n5_a, .inl (cI, 5, .inl u8)), (n6_a, .inl (cI, 25, .inl u9))]) hx hb hts iX6 tyX6_ok nmX6 hown hK hP hD hS 0 rfl rfl 0 (by decide) k12 rfl rfl rfl rfl rfl (Nat.le_of_ble_eq_true rfl) dX6_init_12 rfl (fun H locs hP hD hS => ?_)
  refine lv_aload_n hx hb dX6_init_15 rfl (lv_at hl 0 rfl) ?_
  refine lv_iconst (v := (0 : Int32)) hx hb dX6_init_16 (by decide) ?_
  refine gg_put (ws' := [(q, .inr (6, [.ref n0_o, .int (0 : Int32), .null, .int (0 : Int32)])), (n0_o, .inr (4, [.int u1, .int u2, .int u3, .ref n1_a, .ref n2_a, .ref n3_a, .ref n4_a, .ref n5_a, .ref n6_a])), (n1_a, .inl (cI, 3, .inl u4)), (n2_a, .inl (cI, 5, .inl u5)), (n3_a, .inl (cI, 5, .inl u6)), (n4_a, .inl (cI, 5, .inl u7)), (n5_a, .inl (cI, 5, .inl u8)), (n6_a, .inl (cI, 25, .inl u9))]) hx hb hts iX6 tyX6_ok nmX6 hown hK hP hD hS 0 rfl rfl 1 (by decide) k18 rfl rfl rfl rfl rfl (Nat.le_of_ble_eq_true rfl) dX6_init_17 rfl (fun H locs hP hD hS => ?_)
  refine lv_aload_n hx hb dX6_init_20 rfl (lv_at hl 0 rfl) ?_
  refine lv_iconst (v := (4 : Int32)) hx hb dX6_init_21 (by decide) ?_
  refine gg_newI (N := 4) hx hb (hts (.arrayClass .int) (List.mem_of_getElem? (i := 9) rfl)) hK hP hD hS hA rfl (by decide) (by decide) (Nat.le_of_ble_eq_true rfl) (Nat.le_of_ble_eq_true rfl) (Nat.le_of_ble_eq_true rfl) dX6_init_22 (fun n7_a H hP hD hS => ?_)
  replace hP : va_P D vwCl [(q, .inr (6, [.ref n0_o, .int (0 : Int32), .null, .int (0 : Int32)])), (n0_o, .inr (4, [.int u1, .int u2, .int u3, .ref n1_a, .ref n2_a, .ref n3_a, .ref n4_a, .ref n5_a, .ref n6_a])), (n1_a, .inl (cI, 3, .inl u4)), (n2_a, .inl (cI, 5, .inl u5)), (n3_a, .inl (cI, 5, .inl u6)), (n4_a, .inl (cI, 5, .inl u7)), (n5_a, .inl (cI, 5, .inl u8)), (n6_a, .inl (cI, 25, .inl u9)), (n7_a, .inl (cI, 4, .inl (fun _ => (0 : Int32))))] H := hP
  replace hD : va_D A [(q, .inr (6, [.ref n0_o, .int (0 : Int32), .null, .int (0 : Int32)])), (n0_o, .inr (4, [.int u1, .int u2, .int u3, .ref n1_a, .ref n2_a, .ref n3_a, .ref n4_a, .ref n5_a, .ref n6_a])), (n1_a, .inl (cI, 3, .inl u4)), (n2_a, .inl (cI, 5, .inl u5)), (n3_a, .inl (cI, 5, .inl u6)), (n4_a, .inl (cI, 5, .inl u7)), (n5_a, .inl (cI, 5, .inl u8)), (n6_a, .inl (cI, 25, .inl u9)), (n7_a, .inl (cI, 4, .inl (fun _ => (0 : Int32))))] := hD
  refine W.widen (k := 8) (n := 61) (Nat.le_of_ble_eq_true rfl) (Nat.le_of_ble_eq_true rfl) ?_
  refine gg_putF (ws' := [(q, .inr (6, [.ref n0_o, .int (0 : Int32), .ref n7_a, .int (0 : Int32)])), (n0_o, .inr (4, [.int u1, .int u2, .int u3, .ref n1_a, .ref n2_a, .ref n3_a, .ref n4_a, .ref n5_a, .ref n6_a])), (n1_a, .inl (cI, 3, .inl u4)), (n2_a, .inl (cI, 5, .inl u5)), (n3_a, .inl (cI, 5, .inl u6)), (n4_a, .inl (cI, 5, .inl u7)), (n5_a, .inl (cI, 5, .inl u8)), (n6_a, .inl (cI, 25, .inl u9)), (n7_a, .inl (cI, 4, .inl (fun _ => (0 : Int32))))]) hx hb hts iX6 tyX6_ok nmX6 hown hK hP hD hS 0 rfl rfl 2 (by decide) k22 rfl rfl hin rfl rfl rfl rfl (Nat.le_of_ble_eq_true rfl) dX6_init_24 rfl (fun H locs hP hD hS => ?_)
  refine lv_aload_n hx hb dX6_init_27 rfl (lv_at hl 0 rfl) ?_
  refine lv_iconst (v := (0 : Int32)) hx hb dX6_init_28 (by decide) ?_
  refine gg_put (ws' := [(q, .inr (6, [.ref n0_o, .int (0 : Int32), .ref n7_a, .int (0 : Int32)])), (n0_o, .inr (4, [.int u1, .int u2, .int u3, .ref n1_a, .ref n2_a, .ref n3_a, .ref n4_a, .ref n5_a, .ref n6_a])), (n1_a, .inl (cI, 3, .inl u4)), (n2_a, .inl (cI, 5, .inl u5)), (n3_a, .inl (cI, 5, .inl u6)), (n4_a, .inl (cI, 5, .inl u7)), (n5_a, .inl (cI, 5, .inl u8)), (n6_a, .inl (cI, 25, .inl u9)), (n7_a, .inl (cI, 4, .inl (fun _ => (0 : Int32))))]) hx hb hts iX6 tyX6_ok nmX6 hown hK hP hD hS 0 rfl rfl 3 (by decide) k26 rfl rfl rfl rfl rfl (Nat.le_of_ble_eq_true rfl) dX6_init_29 rfl (fun H locs hP hD hS => ?_)
  have he0 := Option.some.inj hf
  clear hf
  obtain ⟨h0, he1⟩ := Prod.mk.inj he0
  clear he0
  subst h0
  obtain ⟨h0, he2⟩ := Prod.mk.inj he1
  clear he1
  subst h0
  obtain ⟨h0, he3⟩ := Prod.mk.inj he2
  clear he2
  subst h0
  obtain ⟨h0, he4⟩ := Prod.mk.inj he3
  clear he3
  subst h0
  obtain ⟨h0, he5⟩ := Prod.mk.inj he4
  clear he4
  subst h0
  obtain ⟨h0, he6⟩ := Prod.mk.inj he5
  clear he5
  subst h0
  obtain ⟨h0, he7⟩ := Prod.mk.inj he6
  clear he6
  subst h0
  obtain ⟨h0, he8⟩ := Prod.mk.inj he7
  clear he7
  subst h0
  obtain ⟨h0, he9⟩ := Prod.mk.inj he8
  clear he8
  subst h0
  obtain ⟨h0, he10⟩ := Prod.mk.inj he9
  clear he9
  subst h0
  obtain ⟨h0, he11⟩ := Prod.mk.inj he10
  clear he10
  subst h0
  subst he11
  rw [hQ]
  exact gg_vret hx hb hr hlocks hS (Nat.le_of_ble_eq_true rfl) (Nat.le_of_ble_eq_true rfl) dX6_init_32 (n0_o, n1_a, n2_a, n3_a, n4_a, n5_a, n6_a, n7_a) rfl hP hD
noncomputable def pX1_init : Option ((Nat → Int32)) := some (fun _ => (0 : Int32))
set_option maxHeartbeats 4000000 in
set_option maxRecDepth 100000 in
theorem mX1_init (l : Launch) (D : va_G) (cI cJ cZ cR : ClassId) (q : Nat) (o0 : (Nat → Int32)) (hf : pX1_init = some o0) : gg_M gN vwCl (gg_T cI cJ cZ cR) l D yX1_init wsX1_init ({ frames := 1, cells := 1, slots := 97, locals := 12 } : Room) [.ref q] [(q, .inr (1, [.null]))] (fun _ : Nat => none) (fun i => [(q, .inr (1, [.ref i])), (i, .inl (cI, 97, .inl o0))]) := by
  refine gg_M.of (cc := cX1_init) (maxL := 1) (rt := none) (by decide) rfl (Nat.le_of_ble_eq_true rfl) ?_
  intro p e s m below meth c A args Q hQ hx hb hr hml hts hown hlocks hin hA hS hP hK hD ls hl
  replace hown : s.vm.findClass RX1 = some m.cls := hown
  replace hl : lv_has ls 1 [(0, .ref q)] := hl
  have k11 := (hts (.fieldLink RX1 11 "AbsentCarpets$Carpets" "cells" "[I") (List.mem_of_getElem? (i := 5) rfl))
  have iX1 : ∀ w ∈ wsX10, w ∈ wsX1_init := fun _ h => List.mem_cons_of_mem _ (List.mem_append_right _ (h))
  unfold pX1_init at hf
  refine lv_aload_n hx hb dX1_init_0 rfl (lv_at hl 0 rfl) ?_
  refine W.objInit hx hb hown (hts (.methodLink RX1 5 objectInit) (List.mem_of_getElem? (i := 1) rfl)) (hts (.instanceMethod objectInit) (List.mem_of_getElem? (i := 2) rfl)) (hts (.code objectInit ⟨#[0xb1]⟩ 1 none) (List.mem_of_getElem? (i := 3) rfl)) rfl (by rw [hml]; exact hl.1) rfl dX1_init_1 (Nat.le_of_ble_eq_true rfl) (Nat.le_of_ble_eq_true rfl) ?_
  refine W.eq (g2 := F0 m 4 ls []) rfl ?_
  refine lv_aload_n hx hb dX1_init_4 rfl (lv_at hl 0 rfl) ?_
  refine lv_bipush (v := (97 : Int32)) hx hb dX1_init_5 (by decide) ?_
  refine gg_newI (N := 97) hx hb (hts (.arrayClass .int) (List.mem_of_getElem? (i := 4) rfl)) hK hP hD hS hA rfl (by decide) (by decide) (Nat.le_of_ble_eq_true rfl) (Nat.le_of_ble_eq_true rfl) (Nat.le_of_ble_eq_true rfl) dX1_init_7 (fun n0_a H hP hD hS => ?_)
  replace hP : va_P D vwCl [(q, .inr (1, [.null])), (n0_a, .inl (cI, 97, .inl (fun _ => (0 : Int32))))] H := hP
  replace hD : va_D A [(q, .inr (1, [.null])), (n0_a, .inl (cI, 97, .inl (fun _ => (0 : Int32))))] := hD
  refine W.widen (k := 1) (n := 97) (Nat.le_of_ble_eq_true rfl) (Nat.le_of_ble_eq_true rfl) ?_
  refine gg_putF (ws' := [(q, .inr (1, [.ref n0_a])), (n0_a, .inl (cI, 97, .inl (fun _ => (0 : Int32))))]) hx hb hts iX1 tyX1_ok nmX1 hown hK hP hD hS 0 rfl rfl 0 (by decide) k11 rfl rfl hin rfl rfl rfl rfl (Nat.le_of_ble_eq_true rfl) dX1_init_9 rfl (fun H locs hP hD hS => ?_)
  cases hf
  rw [hQ]
  exact gg_vret hx hb hr hlocks hS (Nat.le_of_ble_eq_true rfl) (Nat.le_of_ble_eq_true rfl) dX1_init_12 n0_a rfl hP hD
noncomputable def pX3_init : Option ((Nat → Int32)) := gg_wr 4 (fun _ => (0 : Int32)) (0 : Int32) (-9 : Int32) fun g1 => gg_wr 4 g1 (1 : Int32) (-9 : Int32) fun g2 => gg_wr 4 g2 (2 : Int32) (-9 : Int32) fun g3 => gg_wr 4 g3 (3 : Int32) (-9 : Int32) fun g4 => some g4
set_option maxHeartbeats 4000000 in
set_option maxRecDepth 100000 in
theorem mX3_init (l : Launch) (D : va_G) (cI cJ cZ cR : ClassId) (q : Nat) (o0 : (Nat → Int32)) (hf : pX3_init = some o0) : gg_M gN vwCl (gg_T cI cJ cZ cR) l D yX3_init wsX3_init ({ frames := 1, cells := 1, slots := 4, locals := 12 } : Room) [.ref q] [(q, .inr (3, [.null]))] (fun _ : Nat => none) (fun i => [(q, .inr (3, [.ref i])), (i, .inl (cI, 4, .inl o0))]) := by
  refine gg_M.of (cc := cX3_init) (maxL := 1) (rt := none) (by decide) rfl (Nat.le_of_ble_eq_true rfl) ?_
  intro p e s m below meth c A args Q hQ hx hb hr hml hts hown hlocks hin hA hS hP hK hD ls hl
  replace hown : s.vm.findClass RX3 = some m.cls := hown
  replace hl : lv_has ls 1 [(0, .ref q)] := hl
  have k9 := (hts (.fieldLink RX3 9 "AbsentCarpets$Evening" "told" "[I") (List.mem_of_getElem? (i := 5) rfl))
  have iX3 : ∀ w ∈ wsX30, w ∈ wsX3_init := fun _ h => List.mem_cons_of_mem _ (List.mem_append_right _ (h))
  unfold pX3_init at hf
  refine lv_aload_n hx hb dX3_init_0 rfl (lv_at hl 0 rfl) ?_
  refine W.objInit hx hb hown (hts (.methodLink RX3 3 objectInit) (List.mem_of_getElem? (i := 1) rfl)) (hts (.instanceMethod objectInit) (List.mem_of_getElem? (i := 2) rfl)) (hts (.code objectInit ⟨#[0xb1]⟩ 1 none) (List.mem_of_getElem? (i := 3) rfl)) rfl (by rw [hml]; exact hl.1) rfl dX3_init_1 (Nat.le_of_ble_eq_true rfl) (Nat.le_of_ble_eq_true rfl) ?_
  refine W.eq (g2 := F0 m 4 ls []) rfl ?_
  refine lv_aload_n hx hb dX3_init_4 rfl (lv_at hl 0 rfl) ?_
  refine lv_iconst (v := (4 : Int32)) hx hb dX3_init_5 (by decide) ?_
  refine gg_newI (N := 4) hx hb (hts (.arrayClass .int) (List.mem_of_getElem? (i := 4) rfl)) hK hP hD hS hA rfl (by decide) (by decide) (Nat.le_of_ble_eq_true rfl) (Nat.le_of_ble_eq_true rfl) (Nat.le_of_ble_eq_true rfl) dX3_init_6 (fun n0_a H hP hD hS => ?_)
  replace hP : va_P D vwCl [(q, .inr (3, [.null])), (n0_a, .inl (cI, 4, .inl (fun _ => (0 : Int32))))] H := hP
  replace hD : va_D A [(q, .inr (3, [.null])), (n0_a, .inl (cI, 4, .inl (fun _ => (0 : Int32))))] := hD
  refine W.widen (k := 1) (n := 4) (Nat.le_of_ble_eq_true rfl) (Nat.le_of_ble_eq_true rfl) ?_
  refine lv_dup hx hb dX3_init_8 rfl ?_
  refine lv_iconst (v := (0 : Int32)) hx hb dX3_init_9 (by decide) ?_
  refine lv_bipush (v := (-9 : Int32)) hx hb dX3_init_10 (by decide) ?_
  refine gg_iast (ws' := fun g1 => [(q, .inr (3, [.null])), (n0_a, .inl (cI, 4, .inl g1))]) hx hb hK hP hD hS 1 0 rfl rfl dX3_init_12 (fun _ => rfl) hf (fun g1 H locs hP hD hS hf => ?_)
  refine lv_dup hx hb dX3_init_13 rfl ?_
  refine lv_iconst (v := (1 : Int32)) hx hb dX3_init_14 (by decide) ?_
  refine lv_bipush (v := (-9 : Int32)) hx hb dX3_init_15 (by decide) ?_
  refine gg_iast (ws' := fun g2 => [(q, .inr (3, [.null])), (n0_a, .inl (cI, 4, .inl g2))]) hx hb hK hP hD hS 1 0 rfl rfl dX3_init_17 (fun _ => rfl) hf (fun g2 H locs hP hD hS hf => ?_)
  refine lv_dup hx hb dX3_init_18 rfl ?_
  refine lv_iconst (v := (2 : Int32)) hx hb dX3_init_19 (by decide) ?_
  refine lv_bipush (v := (-9 : Int32)) hx hb dX3_init_20 (by decide) ?_
  refine gg_iast (ws' := fun g3 => [(q, .inr (3, [.null])), (n0_a, .inl (cI, 4, .inl g3))]) hx hb hK hP hD hS 1 0 rfl rfl dX3_init_22 (fun _ => rfl) hf (fun g3 H locs hP hD hS hf => ?_)
  refine lv_dup hx hb dX3_init_23 rfl ?_
  refine lv_iconst (v := (3 : Int32)) hx hb dX3_init_24 (by decide) ?_
  refine lv_bipush (v := (-9 : Int32)) hx hb dX3_init_25 (by decide) ?_
  refine gg_iast (ws' := fun g4 => [(q, .inr (3, [.null])), (n0_a, .inl (cI, 4, .inl g4))]) hx hb hK hP hD hS 1 0 rfl rfl dX3_init_27 (fun _ => rfl) hf (fun g4 H locs hP hD hS hf => ?_)
  refine gg_putF (ws' := [(q, .inr (3, [.ref n0_a])), (n0_a, .inl (cI, 4, .inl g4))]) hx hb hts iX3 tyX3_ok nmX3 hown hK hP hD hS 0 rfl rfl 0 (by decide) k9 rfl rfl hin rfl rfl rfl rfl (Nat.le_of_ble_eq_true rfl) dX3_init_28 rfl (fun H locs hP hD hS => ?_)
  cases hf
  rw [hQ]
  exact gg_vret hx hb hr hlocks hS (Nat.le_of_ble_eq_true rfl) (Nat.le_of_ble_eq_true rfl) dX3_init_31 n0_a rfl hP hD
noncomputable def pX5_init : Option (Int32 × Int32 × (Nat → Nat → Int32) × (Nat → Int32) × (Nat → Int32)) := some ((0 : Int32), (0 : Int32), (fun _ _ => (0 : Int32)), (fun _ => (0 : Int32)), (fun _ => (0 : Int32)))
set_option maxHeartbeats 4000000 in
set_option maxRecDepth 100000 in
theorem mX5_init (l : Launch) (D : va_G) (cI cJ cZ cR : ClassId) (q : Nat) (o0 : Int32) (o1 : Int32) (o2 : (Nat → Nat → Int32)) (o3 : (Nat → Int32)) (o4 : (Nat → Int32)) (hf : pX5_init = some (o0, o1, o2, o3, o4)) : gg_M gN vwCl (gg_T cI cJ cZ cR) l D yX5_init wsX5_init ({ frames := 1, cells := 10, slots := 887, locals := 12 } : Room) [.ref q] [(q, .inr (5, [.null, .null, .null, .int (0 : Int32), .int (0 : Int32)]))] (fun _ : Nat × Nat × Nat × Nat × Nat × Nat × Nat × Nat × Nat × Nat => none) (fun i => [(q, .inr (5, [.ref i.1, .ref i.2.2.2.2.2.2.2.2.1, .ref i.2.2.2.2.2.2.2.2.2, .int o0, .int o1])), (i.1, .inl (cR, 7, .inr (.inr (.inr (.inr (gg_g [i.2.1, i.2.2.1, i.2.2.2.1, i.2.2.2.2.1, i.2.2.2.2.2.1, i.2.2.2.2.2.2.1, i.2.2.2.2.2.2.2.1])))))), (i.2.1, .inl (cI, 124, .inl (o2 0))), (i.2.2.1, .inl (cI, 124, .inl (o2 1))), (i.2.2.2.1, .inl (cI, 124, .inl (o2 2))), (i.2.2.2.2.1, .inl (cI, 124, .inl (o2 3))), (i.2.2.2.2.2.1, .inl (cI, 124, .inl (o2 4))), (i.2.2.2.2.2.2.1, .inl (cI, 124, .inl (o2 5))), (i.2.2.2.2.2.2.2.1, .inl (cI, 124, .inl (o2 6))), (i.2.2.2.2.2.2.2.2.1, .inl (cI, 6, .inl o3)), (i.2.2.2.2.2.2.2.2.2, .inl (cI, 6, .inl o4))]) := by
  refine gg_M.of (cc := cX5_init) (maxL := 1) (rt := none) (by decide) rfl (Nat.le_of_ble_eq_true rfl) ?_
  intro p e s m below meth c A args Q hQ hx hb hr hml hts hown hlocks hin hA hS hP hK hD ls hl
  replace hown : s.vm.findClass RX5 = some m.cls := hown
  replace hl : lv_has ls 1 [(0, .ref q)] := hl
  have k11 := (hts (.fieldLink RX5 11 "AbsentCarpets$Planner" "least" "[[I") (List.mem_of_getElem? (i := 6) rfl))
  have k16 := (hts (.fieldLink RX5 16 "AbsentCarpets$Planner" "troubleOf" "[I") (List.mem_of_getElem? (i := 7) rfl))
  have k20 := (hts (.fieldLink RX5 20 "AbsentCarpets$Planner" "setOf" "[I") (List.mem_of_getElem? (i := 8) rfl))
  have k23 := (hts (.fieldLink RX5 23 "AbsentCarpets$Planner" "needs" "I") (List.mem_of_getElem? (i := 9) rfl))
  have k27 := (hts (.fieldLink RX5 27 "AbsentCarpets$Planner" "members" "I") (List.mem_of_getElem? (i := 10) rfl))
  have iX5 : ∀ w ∈ wsX50, w ∈ wsX5_init := fun _ h => List.mem_cons_of_mem _ (List.mem_append_right _ (h))
  unfold pX5_init at hf
  refine lv_aload_n hx hb dX5_init_0 rfl (lv_at hl 0 rfl) ?_
  refine W.objInit hx hb hown (hts (.methodLink RX5 3 objectInit) (List.mem_of_getElem? (i := 1) rfl)) (hts (.instanceMethod objectInit) (List.mem_of_getElem? (i := 2) rfl)) (hts (.code objectInit ⟨#[0xb1]⟩ 1 none) (List.mem_of_getElem? (i := 3) rfl)) rfl (by rw [hml]; exact hl.1) rfl dX5_init_1 (Nat.le_of_ble_eq_true rfl) (Nat.le_of_ble_eq_true rfl) ?_
  refine W.eq (g2 := F0 m 4 ls []) rfl ?_
  refine lv_aload_n hx hb dX5_init_4 rfl (lv_at hl 0 rfl) ?_
  refine lv_bipush (v := (7 : Int32)) hx hb dX5_init_5 (by decide) ?_
  refine lv_bipush (v := (124 : Int32)) hx hb dX5_init_7 (by decide) ?_
  refine gg_mna7 hx hb hown (hts (.classLink RX5 9 "[[I") (List.mem_of_getElem? (i := 4) rfl)) (hts (.arrayClass .int) (List.mem_of_getElem? (i := 5) rfl)) hK hP hD hS hA (Nat.le_of_ble_eq_true rfl) (Nat.le_of_ble_eq_true rfl) dX5_init_9 (fun n0_f n1_r n2_r n3_r n4_r n5_r n6_r n7_r H hP hD hS => ?_)
  replace hP : va_P D vwCl [(q, .inr (5, [.null, .null, .null, .int (0 : Int32), .int (0 : Int32)])), (n0_f, .inl (cR, 7, .inr (.inr (.inr (.inr (gg_g [n1_r, n2_r, n3_r, n4_r, n5_r, n6_r, n7_r])))))), (n1_r, .inl (cI, 124, .inl ((fun _ _ => (0 : Int32)) 0))), (n2_r, .inl (cI, 124, .inl ((fun _ _ => (0 : Int32)) 1))), (n3_r, .inl (cI, 124, .inl ((fun _ _ => (0 : Int32)) 2))), (n4_r, .inl (cI, 124, .inl ((fun _ _ => (0 : Int32)) 3))), (n5_r, .inl (cI, 124, .inl ((fun _ _ => (0 : Int32)) 4))), (n6_r, .inl (cI, 124, .inl ((fun _ _ => (0 : Int32)) 5))), (n7_r, .inl (cI, 124, .inl ((fun _ _ => (0 : Int32)) 6)))] H := hP
  replace hD : va_D A [(q, .inr (5, [.null, .null, .null, .int (0 : Int32), .int (0 : Int32)])), (n0_f, .inl (cR, 7, .inr (.inr (.inr (.inr (gg_g [n1_r, n2_r, n3_r, n4_r, n5_r, n6_r, n7_r])))))), (n1_r, .inl (cI, 124, .inl ((fun _ _ => (0 : Int32)) 0))), (n2_r, .inl (cI, 124, .inl ((fun _ _ => (0 : Int32)) 1))), (n3_r, .inl (cI, 124, .inl ((fun _ _ => (0 : Int32)) 2))), (n4_r, .inl (cI, 124, .inl ((fun _ _ => (0 : Int32)) 3))), (n5_r, .inl (cI, 124, .inl ((fun _ _ => (0 : Int32)) 4))), (n6_r, .inl (cI, 124, .inl ((fun _ _ => (0 : Int32)) 5))), (n7_r, .inl (cI, 124, .inl ((fun _ _ => (0 : Int32)) 6)))] := hD
  refine W.widen (k := 8) (n := 875) (Nat.le_of_ble_eq_true rfl) (Nat.le_of_ble_eq_true rfl) ?_
  refine gg_putF (ws' := [(q, .inr (5, [.ref n0_f, .null, .null, .int (0 : Int32), .int (0 : Int32)])), (n0_f, .inl (cR, 7, .inr (.inr (.inr (.inr (gg_g [n1_r, n2_r, n3_r, n4_r, n5_r, n6_r, n7_r])))))), (n1_r, .inl (cI, 124, .inl ((fun _ _ => (0 : Int32)) 0))), (n2_r, .inl (cI, 124, .inl ((fun _ _ => (0 : Int32)) 1))), (n3_r, .inl (cI, 124, .inl ((fun _ _ => (0 : Int32)) 2))), (n4_r, .inl (cI, 124, .inl ((fun _ _ => (0 : Int32)) 3))), (n5_r, .inl (cI, 124, .inl ((fun _ _ => (0 : Int32)) 4))), (n6_r, .inl (cI, 124, .inl ((fun _ _ => (0 : Int32)) 5))), (n7_r, .inl (cI, 124, .inl ((fun _ _ => (0 : Int32)) 6)))]) hx hb hts iX5 tyX5_ok nmX5 hown hK hP hD hS 0 rfl rfl 0 (by decide) k11 rfl rfl hin rfl rfl rfl rfl (Nat.le_of_ble_eq_true rfl) dX5_init_13 rfl (fun H locs hP hD hS => ?_)
  refine lv_aload_n hx hb dX5_init_16 rfl (lv_at hl 0 rfl) ?_
  refine lv_bipush (v := (6 : Int32)) hx hb dX5_init_17 (by decide) ?_
  refine gg_newI (N := 6) hx hb (hts (.arrayClass .int) (List.mem_of_getElem? (i := 5) rfl)) hK hP hD hS hA rfl (by decide) (by decide) (Nat.le_of_ble_eq_true rfl) (Nat.le_of_ble_eq_true rfl) (Nat.le_of_ble_eq_true rfl) dX5_init_19 (fun n8_a H hP hD hS => ?_)
  replace hP : va_P D vwCl [(q, .inr (5, [.ref n0_f, .null, .null, .int (0 : Int32), .int (0 : Int32)])), (n0_f, .inl (cR, 7, .inr (.inr (.inr (.inr (gg_g [n1_r, n2_r, n3_r, n4_r, n5_r, n6_r, n7_r])))))), (n1_r, .inl (cI, 124, .inl ((fun _ _ => (0 : Int32)) 0))), (n2_r, .inl (cI, 124, .inl ((fun _ _ => (0 : Int32)) 1))), (n3_r, .inl (cI, 124, .inl ((fun _ _ => (0 : Int32)) 2))), (n4_r, .inl (cI, 124, .inl ((fun _ _ => (0 : Int32)) 3))), (n5_r, .inl (cI, 124, .inl ((fun _ _ => (0 : Int32)) 4))), (n6_r, .inl (cI, 124, .inl ((fun _ _ => (0 : Int32)) 5))), (n7_r, .inl (cI, 124, .inl ((fun _ _ => (0 : Int32)) 6))), (n8_a, .inl (cI, 6, .inl (fun _ => (0 : Int32))))] H := hP
  replace hD : va_D A [(q, .inr (5, [.ref n0_f, .null, .null, .int (0 : Int32), .int (0 : Int32)])), (n0_f, .inl (cR, 7, .inr (.inr (.inr (.inr (gg_g [n1_r, n2_r, n3_r, n4_r, n5_r, n6_r, n7_r])))))), (n1_r, .inl (cI, 124, .inl ((fun _ _ => (0 : Int32)) 0))), (n2_r, .inl (cI, 124, .inl ((fun _ _ => (0 : Int32)) 1))), (n3_r, .inl (cI, 124, .inl ((fun _ _ => (0 : Int32)) 2))), (n4_r, .inl (cI, 124, .inl ((fun _ _ => (0 : Int32)) 3))), (n5_r, .inl (cI, 124, .inl ((fun _ _ => (0 : Int32)) 4))), (n6_r, .inl (cI, 124, .inl ((fun _ _ => (0 : Int32)) 5))), (n7_r, .inl (cI, 124, .inl ((fun _ _ => (0 : Int32)) 6))), (n8_a, .inl (cI, 6, .inl (fun _ => (0 : Int32))))] := hD
  refine W.widen (k := 9) (n := 881) (Nat.le_of_ble_eq_true rfl) (Nat.le_of_ble_eq_true rfl) ?_
  refine gg_putF (ws' := [(q, .inr (5, [.ref n0_f, .ref n8_a, .null, .int (0 : Int32), .int (0 : Int32)])), (n0_f, .inl (cR, 7, .inr (.inr (.inr (.inr (gg_g [n1_r, n2_r, n3_r, n4_r, n5_r, n6_r, n7_r])))))), (n1_r, .inl (cI, 124, .inl ((fun _ _ => (0 : Int32)) 0))), (n2_r, .inl (cI, 124, .inl ((fun _ _ => (0 : Int32)) 1))), (n3_r, .inl (cI, 124, .inl ((fun _ _ => (0 : Int32)) 2))), (n4_r, .inl (cI, 124, .inl ((fun _ _ => (0 : Int32)) 3))), (n5_r, .inl (cI, 124, .inl ((fun _ _ => (0 : Int32)) 4))), (n6_r, .inl (cI, 124, .inl ((fun _ _ => (0 : Int32)) 5))), (n7_r, .inl (cI, 124, .inl ((fun _ _ => (0 : Int32)) 6))), (n8_a, .inl (cI, 6, .inl (fun _ => (0 : Int32))))]) hx hb hts iX5 tyX5_ok nmX5 hown hK hP hD hS 0 rfl rfl 1 (by decide) k16 rfl rfl hin rfl rfl rfl rfl (Nat.le_of_ble_eq_true rfl) dX5_init_21 rfl (fun H locs hP hD hS => ?_)
  refine lv_aload_n hx hb dX5_init_24 rfl (lv_at hl 0 rfl) ?_
  refine lv_bipush (v := (6 : Int32)) hx hb dX5_init_25 (by decide) ?_
  refine gg_newI (N := 6) hx hb (hts (.arrayClass .int) (List.mem_of_getElem? (i := 5) rfl)) hK hP hD hS hA rfl (by decide) (by decide) (Nat.le_of_ble_eq_true rfl) (Nat.le_of_ble_eq_true rfl) (Nat.le_of_ble_eq_true rfl) dX5_init_27 (fun n9_a H hP hD hS => ?_)
  replace hP : va_P D vwCl [(q, .inr (5, [.ref n0_f, .ref n8_a, .null, .int (0 : Int32), .int (0 : Int32)])), (n0_f, .inl (cR, 7, .inr (.inr (.inr (.inr (gg_g [n1_r, n2_r, n3_r, n4_r, n5_r, n6_r, n7_r])))))), (n1_r, .inl (cI, 124, .inl ((fun _ _ => (0 : Int32)) 0))), (n2_r, .inl (cI, 124, .inl ((fun _ _ => (0 : Int32)) 1))), (n3_r, .inl (cI, 124, .inl ((fun _ _ => (0 : Int32)) 2))), (n4_r, .inl (cI, 124, .inl ((fun _ _ => (0 : Int32)) 3))), (n5_r, .inl (cI, 124, .inl ((fun _ _ => (0 : Int32)) 4))), (n6_r, .inl (cI, 124, .inl ((fun _ _ => (0 : Int32)) 5))), (n7_r, .inl (cI, 124, .inl ((fun _ _ => (0 : Int32)) 6))), (n8_a, .inl (cI, 6, .inl (fun _ => (0 : Int32)))), (n9_a, .inl (cI, 6, .inl (fun _ => (0 : Int32))))] H := hP
  replace hD : va_D A [(q, .inr (5, [.ref n0_f, .ref n8_a, .null, .int (0 : Int32), .int (0 : Int32)])), (n0_f, .inl (cR, 7, .inr (.inr (.inr (.inr (gg_g [n1_r, n2_r, n3_r, n4_r, n5_r, n6_r, n7_r])))))), (n1_r, .inl (cI, 124, .inl ((fun _ _ => (0 : Int32)) 0))), (n2_r, .inl (cI, 124, .inl ((fun _ _ => (0 : Int32)) 1))), (n3_r, .inl (cI, 124, .inl ((fun _ _ => (0 : Int32)) 2))), (n4_r, .inl (cI, 124, .inl ((fun _ _ => (0 : Int32)) 3))), (n5_r, .inl (cI, 124, .inl ((fun _ _ => (0 : Int32)) 4))), (n6_r, .inl (cI, 124, .inl ((fun _ _ => (0 : Int32)) 5))), (n7_r, .inl (cI, 124, .inl ((fun _ _ => (0 : Int32)) 6))), (n8_a, .inl (cI, 6, .inl (fun _ => (0 : Int32)))), (n9_a, .inl (cI, 6, .inl (fun _ => (0 : Int32))))] := hD
  refine W.widen (k := 10) (n := 887) (Nat.le_of_ble_eq_true rfl) (Nat.le_of_ble_eq_true rfl) ?_
  refine gg_putF (ws' := [(q, .inr (5, [.ref n0_f, .ref n8_a, .ref n9_a, .int (0 : Int32), .int (0 : Int32)])), (n0_f, .inl (cR, 7, .inr (.inr (.inr (.inr (gg_g [n1_r, n2_r, n3_r, n4_r, n5_r, n6_r, n7_r])))))), (n1_r, .inl (cI, 124, .inl ((fun _ _ => (0 : Int32)) 0))), (n2_r, .inl (cI, 124, .inl ((fun _ _ => (0 : Int32)) 1))), (n3_r, .inl (cI, 124, .inl ((fun _ _ => (0 : Int32)) 2))), (n4_r, .inl (cI, 124, .inl ((fun _ _ => (0 : Int32)) 3))), (n5_r, .inl (cI, 124, .inl ((fun _ _ => (0 : Int32)) 4))), (n6_r, .inl (cI, 124, .inl ((fun _ _ => (0 : Int32)) 5))), (n7_r, .inl (cI, 124, .inl ((fun _ _ => (0 : Int32)) 6))), (n8_a, .inl (cI, 6, .inl (fun _ => (0 : Int32)))), (n9_a, .inl (cI, 6, .inl (fun _ => (0 : Int32))))]) hx hb hts iX5 tyX5_ok nmX5 hown hK hP hD hS 0 rfl rfl 2 (by decide) k20 rfl rfl hin rfl rfl rfl rfl (Nat.le_of_ble_eq_true rfl) dX5_init_29 rfl (fun H locs hP hD hS => ?_)
  refine lv_aload_n hx hb dX5_init_32 rfl (lv_at hl 0 rfl) ?_
  refine lv_iconst (v := (0 : Int32)) hx hb dX5_init_33 (by decide) ?_
  refine gg_put (ws' := [(q, .inr (5, [.ref n0_f, .ref n8_a, .ref n9_a, .int (0 : Int32), .int (0 : Int32)])), (n0_f, .inl (cR, 7, .inr (.inr (.inr (.inr (gg_g [n1_r, n2_r, n3_r, n4_r, n5_r, n6_r, n7_r])))))), (n1_r, .inl (cI, 124, .inl ((fun _ _ => (0 : Int32)) 0))), (n2_r, .inl (cI, 124, .inl ((fun _ _ => (0 : Int32)) 1))), (n3_r, .inl (cI, 124, .inl ((fun _ _ => (0 : Int32)) 2))), (n4_r, .inl (cI, 124, .inl ((fun _ _ => (0 : Int32)) 3))), (n5_r, .inl (cI, 124, .inl ((fun _ _ => (0 : Int32)) 4))), (n6_r, .inl (cI, 124, .inl ((fun _ _ => (0 : Int32)) 5))), (n7_r, .inl (cI, 124, .inl ((fun _ _ => (0 : Int32)) 6))), (n8_a, .inl (cI, 6, .inl (fun _ => (0 : Int32)))), (n9_a, .inl (cI, 6, .inl (fun _ => (0 : Int32))))]) hx hb hts iX5 tyX5_ok nmX5 hown hK hP hD hS 0 rfl rfl 3 (by decide) k23 rfl rfl rfl rfl rfl (Nat.le_of_ble_eq_true rfl) dX5_init_34 rfl (fun H locs hP hD hS => ?_)
  refine lv_aload_n hx hb dX5_init_37 rfl (lv_at hl 0 rfl) ?_
  refine lv_iconst (v := (0 : Int32)) hx hb dX5_init_38 (by decide) ?_
  refine gg_put (ws' := [(q, .inr (5, [.ref n0_f, .ref n8_a, .ref n9_a, .int (0 : Int32), .int (0 : Int32)])), (n0_f, .inl (cR, 7, .inr (.inr (.inr (.inr (gg_g [n1_r, n2_r, n3_r, n4_r, n5_r, n6_r, n7_r])))))), (n1_r, .inl (cI, 124, .inl ((fun _ _ => (0 : Int32)) 0))), (n2_r, .inl (cI, 124, .inl ((fun _ _ => (0 : Int32)) 1))), (n3_r, .inl (cI, 124, .inl ((fun _ _ => (0 : Int32)) 2))), (n4_r, .inl (cI, 124, .inl ((fun _ _ => (0 : Int32)) 3))), (n5_r, .inl (cI, 124, .inl ((fun _ _ => (0 : Int32)) 4))), (n6_r, .inl (cI, 124, .inl ((fun _ _ => (0 : Int32)) 5))), (n7_r, .inl (cI, 124, .inl ((fun _ _ => (0 : Int32)) 6))), (n8_a, .inl (cI, 6, .inl (fun _ => (0 : Int32)))), (n9_a, .inl (cI, 6, .inl (fun _ => (0 : Int32))))]) hx hb hts iX5 tyX5_ok nmX5 hown hK hP hD hS 0 rfl rfl 4 (by decide) k27 rfl rfl rfl rfl rfl (Nat.le_of_ble_eq_true rfl) dX5_init_39 rfl (fun H locs hP hD hS => ?_)
  cases hf
  rw [hQ]
  exact gg_vret hx hb hr hlocks hS (Nat.le_of_ble_eq_true rfl) (Nat.le_of_ble_eq_true rfl) dX5_init_42 (n0_f, n1_r, n2_r, n3_r, n4_r, n5_r, n6_r, n7_r, n8_a, n9_a) rfl hP hD
noncomputable def pX2_init : Option (Int32 × Int64 × Int64 × (Nat → Int64) × (Nat → Int64) × (Nat → Int64)) := some ((0 : Int32), (1 : Int64), (0 : Int64), (fun _ => (0 : Int64)), (fun _ => (0 : Int64)), (fun _ => (0 : Int64)))
set_option maxHeartbeats 4000000 in
set_option maxRecDepth 100000 in
theorem mX2_init (l : Launch) (D : va_G) (cI cJ cZ cR : ClassId) (q : Nat) (o0 : Int32) (o1 : Int64) (o2 : Int64) (o3 : (Nat → Int64)) (o4 : (Nat → Int64)) (o5 : (Nat → Int64)) (hf : pX2_init = some (o0, o1, o2, o3, o4, o5)) : gg_M gN vwCl (gg_T cI cJ cZ cR) l D yX2_init wsX2_init ({ frames := 1, cells := 3, slots := 254, locals := 12 } : Room) [.ref q] [(q, .inr (2, [.null, .null, .null, .int (0 : Int32), .long (0 : Int64), .long (0 : Int64)]))] (fun _ : Nat × Nat × Nat => none) (fun i => [(q, .inr (2, [.ref i.1, .ref i.2.1, .ref i.2.2, .int o0, .long o1, .long o2])), (i.1, .inl (cJ, 124, .inr (.inl o3))), (i.2.1, .inl (cJ, 124, .inr (.inl o4))), (i.2.2, .inl (cJ, 6, .inr (.inl o5)))]) := by
  refine gg_M.of (cc := cX2_init) (maxL := 1) (rt := none) (by decide) rfl (Nat.le_of_ble_eq_true rfl) ?_
  intro p e s m below meth c A args Q hQ hx hb hr hml hts hown hlocks hin hA hS hP hK hD ls hl
  replace hown : s.vm.findClass RX2 = some m.cls := hown
  replace hl : lv_has ls 1 [(0, .ref q)] := hl
  have k9 := (hts (.fieldLink RX2 9 "AbsentCarpets$Chances" "now" "[J") (List.mem_of_getElem? (i := 5) rfl))
  have k15 := (hts (.fieldLink RX2 15 "AbsentCarpets$Chances" "behind" "[J") (List.mem_of_getElem? (i := 6) rfl))
  have k18 := (hts (.fieldLink RX2 18 "AbsentCarpets$Chances" "waysOf" "[J") (List.mem_of_getElem? (i := 7) rfl))
  have k21 := (hts (.fieldLink RX2 21 "AbsentCarpets$Chances" "members" "I") (List.mem_of_getElem? (i := 8) rfl))
  have k25 := (hts (.fieldLink RX2 25 "AbsentCarpets$Chances" "allWays" "J") (List.mem_of_getElem? (i := 9) rfl))
  have k29 := (hts (.fieldLink RX2 29 "AbsentCarpets$Chances" "doneWays" "J") (List.mem_of_getElem? (i := 10) rfl))
  have iX2 : ∀ w ∈ wsX20, w ∈ wsX2_init := fun _ h => List.mem_cons_of_mem _ (List.mem_append_right _ (h))
  unfold pX2_init at hf
  refine lv_aload_n hx hb dX2_init_0 rfl (lv_at hl 0 rfl) ?_
  refine W.objInit hx hb hown (hts (.methodLink RX2 3 objectInit) (List.mem_of_getElem? (i := 1) rfl)) (hts (.instanceMethod objectInit) (List.mem_of_getElem? (i := 2) rfl)) (hts (.code objectInit ⟨#[0xb1]⟩ 1 none) (List.mem_of_getElem? (i := 3) rfl)) rfl (by rw [hml]; exact hl.1) rfl dX2_init_1 (Nat.le_of_ble_eq_true rfl) (Nat.le_of_ble_eq_true rfl) ?_
  refine W.eq (g2 := F0 m 4 ls []) rfl ?_
  refine lv_aload_n hx hb dX2_init_4 rfl (lv_at hl 0 rfl) ?_
  refine lv_bipush (v := (124 : Int32)) hx hb dX2_init_5 (by decide) ?_
  refine gg_newJ (N := 124) hx hb (hts (.arrayClass .long) (List.mem_of_getElem? (i := 4) rfl)) hK hP hD hS hA rfl (by decide) (by decide) (Nat.le_of_ble_eq_true rfl) (Nat.le_of_ble_eq_true rfl) (Nat.le_of_ble_eq_true rfl) dX2_init_7 (fun n0_a H hP hD hS => ?_)
  replace hP : va_P D vwCl [(q, .inr (2, [.null, .null, .null, .int (0 : Int32), .long (0 : Int64), .long (0 : Int64)])), (n0_a, .inl (cJ, 124, .inr (.inl (fun _ => (0 : Int64)))))] H := hP
  replace hD : va_D A [(q, .inr (2, [.null, .null, .null, .int (0 : Int32), .long (0 : Int64), .long (0 : Int64)])), (n0_a, .inl (cJ, 124, .inr (.inl (fun _ => (0 : Int64)))))] := hD
  refine W.widen (k := 1) (n := 124) (Nat.le_of_ble_eq_true rfl) (Nat.le_of_ble_eq_true rfl) ?_
  refine gg_putF (ws' := [(q, .inr (2, [.ref n0_a, .null, .null, .int (0 : Int32), .long (0 : Int64), .long (0 : Int64)])), (n0_a, .inl (cJ, 124, .inr (.inl (fun _ => (0 : Int64)))))]) hx hb hts iX2 tyX2_ok nmX2 hown hK hP hD hS 0 rfl rfl 0 (by decide) k9 rfl rfl hin rfl rfl rfl rfl (Nat.le_of_ble_eq_true rfl) dX2_init_9 rfl (fun H locs hP hD hS => ?_)
  refine lv_aload_n hx hb dX2_init_12 rfl (lv_at hl 0 rfl) ?_
  refine lv_bipush (v := (124 : Int32)) hx hb dX2_init_13 (by decide) ?_
  refine gg_newJ (N := 124) hx hb (hts (.arrayClass .long) (List.mem_of_getElem? (i := 4) rfl)) hK hP hD hS hA rfl (by decide) (by decide) (Nat.le_of_ble_eq_true rfl) (Nat.le_of_ble_eq_true rfl) (Nat.le_of_ble_eq_true rfl) dX2_init_15 (fun n1_a H hP hD hS => ?_)
  replace hP : va_P D vwCl [(q, .inr (2, [.ref n0_a, .null, .null, .int (0 : Int32), .long (0 : Int64), .long (0 : Int64)])), (n0_a, .inl (cJ, 124, .inr (.inl (fun _ => (0 : Int64))))), (n1_a, .inl (cJ, 124, .inr (.inl (fun _ => (0 : Int64)))))] H := hP
  replace hD : va_D A [(q, .inr (2, [.ref n0_a, .null, .null, .int (0 : Int32), .long (0 : Int64), .long (0 : Int64)])), (n0_a, .inl (cJ, 124, .inr (.inl (fun _ => (0 : Int64))))), (n1_a, .inl (cJ, 124, .inr (.inl (fun _ => (0 : Int64)))))] := hD
  refine W.widen (k := 2) (n := 248) (Nat.le_of_ble_eq_true rfl) (Nat.le_of_ble_eq_true rfl) ?_
  refine gg_putF (ws' := [(q, .inr (2, [.ref n0_a, .ref n1_a, .null, .int (0 : Int32), .long (0 : Int64), .long (0 : Int64)])), (n0_a, .inl (cJ, 124, .inr (.inl (fun _ => (0 : Int64))))), (n1_a, .inl (cJ, 124, .inr (.inl (fun _ => (0 : Int64)))))]) hx hb hts iX2 tyX2_ok nmX2 hown hK hP hD hS 0 rfl rfl 1 (by decide) k15 rfl rfl hin rfl rfl rfl rfl (Nat.le_of_ble_eq_true rfl) dX2_init_17 rfl (fun H locs hP hD hS => ?_)
  refine lv_aload_n hx hb dX2_init_20 rfl (lv_at hl 0 rfl) ?_
  refine lv_bipush (v := (6 : Int32)) hx hb dX2_init_21 (by decide) ?_
  refine gg_newJ (N := 6) hx hb (hts (.arrayClass .long) (List.mem_of_getElem? (i := 4) rfl)) hK hP hD hS hA rfl (by decide) (by decide) (Nat.le_of_ble_eq_true rfl) (Nat.le_of_ble_eq_true rfl) (Nat.le_of_ble_eq_true rfl) dX2_init_23 (fun n2_a H hP hD hS => ?_)
  replace hP : va_P D vwCl [(q, .inr (2, [.ref n0_a, .ref n1_a, .null, .int (0 : Int32), .long (0 : Int64), .long (0 : Int64)])), (n0_a, .inl (cJ, 124, .inr (.inl (fun _ => (0 : Int64))))), (n1_a, .inl (cJ, 124, .inr (.inl (fun _ => (0 : Int64))))), (n2_a, .inl (cJ, 6, .inr (.inl (fun _ => (0 : Int64)))))] H := hP
  replace hD : va_D A [(q, .inr (2, [.ref n0_a, .ref n1_a, .null, .int (0 : Int32), .long (0 : Int64), .long (0 : Int64)])), (n0_a, .inl (cJ, 124, .inr (.inl (fun _ => (0 : Int64))))), (n1_a, .inl (cJ, 124, .inr (.inl (fun _ => (0 : Int64))))), (n2_a, .inl (cJ, 6, .inr (.inl (fun _ => (0 : Int64)))))] := hD
  refine W.widen (k := 3) (n := 254) (Nat.le_of_ble_eq_true rfl) (Nat.le_of_ble_eq_true rfl) ?_
  refine gg_putF (ws' := [(q, .inr (2, [.ref n0_a, .ref n1_a, .ref n2_a, .int (0 : Int32), .long (0 : Int64), .long (0 : Int64)])), (n0_a, .inl (cJ, 124, .inr (.inl (fun _ => (0 : Int64))))), (n1_a, .inl (cJ, 124, .inr (.inl (fun _ => (0 : Int64))))), (n2_a, .inl (cJ, 6, .inr (.inl (fun _ => (0 : Int64)))))]) hx hb hts iX2 tyX2_ok nmX2 hown hK hP hD hS 0 rfl rfl 2 (by decide) k18 rfl rfl hin rfl rfl rfl rfl (Nat.le_of_ble_eq_true rfl) dX2_init_25 rfl (fun H locs hP hD hS => ?_)
  refine lv_aload_n hx hb dX2_init_28 rfl (lv_at hl 0 rfl) ?_
  refine lv_iconst (v := (0 : Int32)) hx hb dX2_init_29 (by decide) ?_
  refine gg_put (ws' := [(q, .inr (2, [.ref n0_a, .ref n1_a, .ref n2_a, .int (0 : Int32), .long (0 : Int64), .long (0 : Int64)])), (n0_a, .inl (cJ, 124, .inr (.inl (fun _ => (0 : Int64))))), (n1_a, .inl (cJ, 124, .inr (.inl (fun _ => (0 : Int64))))), (n2_a, .inl (cJ, 6, .inr (.inl (fun _ => (0 : Int64)))))]) hx hb hts iX2 tyX2_ok nmX2 hown hK hP hD hS 0 rfl rfl 3 (by decide) k21 rfl rfl rfl rfl rfl (Nat.le_of_ble_eq_true rfl) dX2_init_30 rfl (fun H locs hP hD hS => ?_)
  refine lv_aload_n hx hb dX2_init_33 rfl (lv_at hl 0 rfl) ?_
  refine lv_lconst (v := (1 : Int64)) hx hb dX2_init_34 (by decide) ?_
  refine gg_put (ws' := [(q, .inr (2, [.ref n0_a, .ref n1_a, .ref n2_a, .int (0 : Int32), .long (1 : Int64), .long (0 : Int64)])), (n0_a, .inl (cJ, 124, .inr (.inl (fun _ => (0 : Int64))))), (n1_a, .inl (cJ, 124, .inr (.inl (fun _ => (0 : Int64))))), (n2_a, .inl (cJ, 6, .inr (.inl (fun _ => (0 : Int64)))))]) hx hb hts iX2 tyX2_ok nmX2 hown hK hP hD hS 0 rfl rfl 4 (by decide) k25 rfl rfl rfl rfl rfl (Nat.le_of_ble_eq_true rfl) dX2_init_35 rfl (fun H locs hP hD hS => ?_)
  refine lv_aload_n hx hb dX2_init_38 rfl (lv_at hl 0 rfl) ?_
  refine lv_lconst (v := (0 : Int64)) hx hb dX2_init_39 (by decide) ?_
  refine gg_put (ws' := [(q, .inr (2, [.ref n0_a, .ref n1_a, .ref n2_a, .int (0 : Int32), .long (1 : Int64), .long (0 : Int64)])), (n0_a, .inl (cJ, 124, .inr (.inl (fun _ => (0 : Int64))))), (n1_a, .inl (cJ, 124, .inr (.inl (fun _ => (0 : Int64))))), (n2_a, .inl (cJ, 6, .inr (.inl (fun _ => (0 : Int64)))))]) hx hb hts iX2 tyX2_ok nmX2 hown hK hP hD hS 0 rfl rfl 5 (by decide) k29 rfl rfl rfl rfl rfl (Nat.le_of_ble_eq_true rfl) dX2_init_40 rfl (fun H locs hP hD hS => ?_)
  cases hf
  rw [hQ]
  exact gg_vret hx hb hr hlocks hS (Nat.le_of_ble_eq_true rfl) (Nat.le_of_ble_eq_true rfl) dX2_init_43 (n0_a, n1_a, n2_a) rfl hP hD
