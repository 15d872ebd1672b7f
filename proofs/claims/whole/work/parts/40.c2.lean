/-! constructors: people, tape, chain, paragraph -/
set_option maxHeartbeats 4000000 in
set_option maxRecDepth 100000 in
theorem nwPeople (l : Launch) (D : va_G) (cy : Nat → ClassId) (A : Nat → Prop) (X : va_W) (h0 : Nat) (hD0 : va_D A (X ++ [(h0, .inr (2, [.null, .int 0]))])) : MN l yX2_init wsX2_init { frames := 1, cells := 1, slots := 8, locals := 12 } D cy A (X ++ [(h0, .inr (2, [.null, .int 0]))]) [.ref h0] (fun (q : Nat) => X ++ [(h0, .inr (2, [.ref q, .int 0])), (q, .inl (cy 0, 8, .inl (fun _ => 0)))]) 1 8 := by
  refine Met.ofW (cc := cX2_init) (maxL := 1) (ret := none) (by decide) rfl ?_
  intro p e s m args below meth c s₁ B hml hv
  obtain ⟨ha, hP, hK, hO, hA⟩ := hv
  have hx := B.exec
  have hb := B.bytes
  have hr := B.returns
  have hts := atoms_spec (ws := wsX2_init) B.pre
  have hown : s.vm.findClass RX2 = some m.cls := findClass_of_methodNamed B.named
  have hlocks := B.notSynchronized
  have hin0 : meth.name = "<init>" := (name_of_methodNamed B.named B.method).1
  have hS : va_S A s.heap s.heap [] := va_S.rf
  obtain ⟨ls, hl, he0⟩ := ent (m := m) ha (n := 1) (Nat.le_of_ble_eq_true rfl)
  refine W.eq he0 ?_
  have hl : lv_has ls 1 [(0, .ref h0)] := hl
  suffices hG : ∀ (H : Heap) (locs : List Loc), va_P D vwCl (X ++ [(h0, .inr (2, [.null, .int 0]))]) H → va_D A (X ++ [(h0, .inr (2, [.null, .int 0]))]) → va_S A s.heap H locs → W p l e (headSpec wsX2_init { frames := 1, cells := 1, slots := 8, locals := 12 }).room s m args below meth c H locs 0 0 (MQ below (QcN D A (fun (q : Nat) => X ++ [(h0, .inr (2, [.ref q, .int 0])), (q, .inl (cy 0, 8, .inl (fun _ => 0)))])) args s 1 8 A) (F0 m 0 ls []) by exact hG s.heap [] hP hD0 va_S.rf
  clear hP hS
  intro H locs hP hD hS
  refine lv_aload_n hx hb dX2_init_0 rfl (lv_at hl 0 rfl) ?_
  refine W.objInit hx hb hown (hts (Cond.methodLink RX2 3 objectInit) (List.mem_of_getElem? (i := 1) rfl)) (hts (Cond.instanceMethod objectInit) (List.mem_of_getElem? (i := 2) rfl)) (hts (Cond.code objectInit ⟨#[0xb1]⟩ 1 none) (List.mem_of_getElem? (i := 3) rfl)) rfl (by rw [hml]; exact hl.1) rfl dX2_init_1 (Nat.le_of_ble_eq_true rfl) (Nat.le_of_ble_eq_true rfl) ?_
  refine W.eq (g2 := F0 m 4 ls []) rfl ?_
  refine lv_aload_n hx hb dX2_init_4 rfl (lv_at hl 0 rfl) ?_
  refine lv_bipush (v := 8) hx hb dX2_init_5 (by decide) ?_
  refine nwI (N := 8) hx hb (hts (Cond.arrayClass .int) (List.mem_of_getElem? (i := 4) rfl)) hK hP hD hS hA (by decide) (by decide) (by decide) (Nat.le_of_ble_eq_true rfl) (Nat.le_of_ble_eq_true rfl) dX2_init_7 (fun q7 H hP hD hS => ?_)
  have hP : va_P D vwCl (X ++ [(h0, .inr (2, [.null, .int 0])), (q7, .inl (cy 0, 8, .inl (fun _ => 0)))]) H := hP
  have hD : va_D A (X ++ [(h0, .inr (2, [.null, .int 0])), (q7, .inl (cy 0, 8, .inl (fun _ => 0)))]) := hD
  refine ptF 0 (C := RX2) (T := TX2) (N := 2) (v := .ref q7) (ty := .array .int) hx hb hts (fun _ h => List.mem_cons_of_mem _ (List.mem_append_right _ h)) tyX2 tyX2_ok nmX2 hown hK hP hD hS rfl rfl 0 (by decide) (hts (Cond.fieldLink RX2 9 "WhoSpeaks$People" "sorts" "[I") (List.mem_of_getElem? (i := 5) rfl)) (fun _ h9 => h9) rfl hin0 rfl (by decide +kernel) rfl rfl (Nat.le_of_ble_eq_true rfl) dX2_init_9 (fun H locs hP hD hS => ?_)
  have hP : va_P D vwCl (X ++ [(h0, .inr (2, [.ref q7, .int 0])), (q7, .inl (cy 0, 8, .inl (fun _ => 0)))]) H := hP
  have hD : va_D A (X ++ [(h0, .inr (2, [.ref q7, .int 0])), (q7, .inl (cy 0, 8, .inl (fun _ => 0)))]) := hD
  refine lv_aload_n hx hb dX2_init_12 rfl (lv_at hl 0 rfl) ?_
  refine lv_iconst (v := 0) hx hb dX2_init_13 (by decide) ?_
  refine ptV 0 (C := RX2) (T := TX2) (N := 2) (v := .int 0) (ty := .int) hx hb hts (fun _ h => List.mem_cons_of_mem _ (List.mem_append_right _ h)) tyX2 tyX2_ok nmX2 hown hK hP hD hS rfl rfl 1 (by decide) (hts (Cond.fieldLink RX2 15 "WhoSpeaks$People" "there" "I") (List.mem_of_getElem? (i := 6) rfl)) (fun _ h9 => h9) rfl (by decide +kernel) rfl rfl (Nat.le_of_ble_eq_true rfl) dX2_init_14 (fun H locs hP hD hS => ?_)
  have hP : va_P D vwCl (X ++ [(h0, .inr (2, [.ref q7, .int 0])), (q7, .inl (cy 0, 8, .inl (fun _ => 0)))]) H := hP
  have hD : va_D A (X ++ [(h0, .inr (2, [.ref q7, .int 0])), (q7, .inl (cy 0, 8, .inl (fun _ => 0)))]) := hD
  exact rN (w1 := (fun (q : Nat) => X ++ [(h0, .inr (2, [.ref q, .int 0])), (q, .inl (cy 0, 8, .inl (fun _ => 0)))])) q7 hx hb hr hP hD hS hlocks dX2_init_17
set_option maxHeartbeats 4000000 in
set_option maxRecDepth 100000 in
theorem nwTape (l : Launch) (D : va_G) (cy : Nat → ClassId) (A : Nat → Prop) (X : va_W) (h0 : Nat) (hD0 : va_D A (X ++ [(h0, .inr (4, [.null, .int 0]))])) : MN l yX4_init wsX4_init { frames := 1, cells := 1, slots := 12, locals := 12 } D cy A (X ++ [(h0, .inr (4, [.null, .int 0]))]) [.ref h0] (fun (q : Nat) => X ++ [(h0, .inr (4, [.ref q, .int 0])), (q, .inl (cy 0, 12, .inl (fun _ => 0)))]) 1 12 := by
  refine Met.ofW (cc := cX4_init) (maxL := 1) (ret := none) (by decide) rfl ?_
  intro p e s m args below meth c s₁ B hml hv
  obtain ⟨ha, hP, hK, hO, hA⟩ := hv
  have hx := B.exec
  have hb := B.bytes
  have hr := B.returns
  have hts := atoms_spec (ws := wsX4_init) B.pre
  have hown : s.vm.findClass RX4 = some m.cls := findClass_of_methodNamed B.named
  have hlocks := B.notSynchronized
  have hin0 : meth.name = "<init>" := (name_of_methodNamed B.named B.method).1
  have hS : va_S A s.heap s.heap [] := va_S.rf
  obtain ⟨ls, hl, he0⟩ := ent (m := m) ha (n := 1) (Nat.le_of_ble_eq_true rfl)
  refine W.eq he0 ?_
  have hl : lv_has ls 1 [(0, .ref h0)] := hl
  suffices hG : ∀ (H : Heap) (locs : List Loc), va_P D vwCl (X ++ [(h0, .inr (4, [.null, .int 0]))]) H → va_D A (X ++ [(h0, .inr (4, [.null, .int 0]))]) → va_S A s.heap H locs → W p l e (headSpec wsX4_init { frames := 1, cells := 1, slots := 12, locals := 12 }).room s m args below meth c H locs 0 0 (MQ below (QcN D A (fun (q : Nat) => X ++ [(h0, .inr (4, [.ref q, .int 0])), (q, .inl (cy 0, 12, .inl (fun _ => 0)))])) args s 1 12 A) (F0 m 0 ls []) by exact hG s.heap [] hP hD0 va_S.rf
  clear hP hS
  intro H locs hP hD hS
  refine lv_aload_n hx hb dX4_init_0 rfl (lv_at hl 0 rfl) ?_
  refine W.objInit hx hb hown (hts (Cond.methodLink RX4 3 objectInit) (List.mem_of_getElem? (i := 1) rfl)) (hts (Cond.instanceMethod objectInit) (List.mem_of_getElem? (i := 2) rfl)) (hts (Cond.code objectInit ⟨#[0xb1]⟩ 1 none) (List.mem_of_getElem? (i := 3) rfl)) rfl (by rw [hml]; exact hl.1) rfl dX4_init_1 (Nat.le_of_ble_eq_true rfl) (Nat.le_of_ble_eq_true rfl) ?_
  refine W.eq (g2 := F0 m 4 ls []) rfl ?_
  refine lv_aload_n hx hb dX4_init_4 rfl (lv_at hl 0 rfl) ?_
  refine lv_bipush (v := 12) hx hb dX4_init_5 (by decide) ?_
  refine nwI (N := 12) hx hb (hts (Cond.arrayClass .int) (List.mem_of_getElem? (i := 4) rfl)) hK hP hD hS hA (by decide) (by decide) (by decide) (Nat.le_of_ble_eq_true rfl) (Nat.le_of_ble_eq_true rfl) dX4_init_7 (fun q7 H hP hD hS => ?_)
  have hP : va_P D vwCl (X ++ [(h0, .inr (4, [.null, .int 0])), (q7, .inl (cy 0, 12, .inl (fun _ => 0)))]) H := hP
  have hD : va_D A (X ++ [(h0, .inr (4, [.null, .int 0])), (q7, .inl (cy 0, 12, .inl (fun _ => 0)))]) := hD
  refine ptF 0 (C := RX4) (T := TX4) (N := 2) (v := .ref q7) (ty := .array .int) hx hb hts (fun _ h => List.mem_cons_of_mem _ (List.mem_append_right _ h)) tyX4 tyX4_ok nmX4 hown hK hP hD hS rfl rfl 0 (by decide) (hts (Cond.fieldLink RX4 9 "WhoSpeaks$Tape" "codes" "[I") (List.mem_of_getElem? (i := 5) rfl)) (fun _ h9 => h9) rfl hin0 rfl (by decide +kernel) rfl rfl (Nat.le_of_ble_eq_true rfl) dX4_init_9 (fun H locs hP hD hS => ?_)
  have hP : va_P D vwCl (X ++ [(h0, .inr (4, [.ref q7, .int 0])), (q7, .inl (cy 0, 12, .inl (fun _ => 0)))]) H := hP
  have hD : va_D A (X ++ [(h0, .inr (4, [.ref q7, .int 0])), (q7, .inl (cy 0, 12, .inl (fun _ => 0)))]) := hD
  refine lv_aload_n hx hb dX4_init_12 rfl (lv_at hl 0 rfl) ?_
  refine lv_iconst (v := 0) hx hb dX4_init_13 (by decide) ?_
  refine ptV 0 (C := RX4) (T := TX4) (N := 2) (v := .int 0) (ty := .int) hx hb hts (fun _ h => List.mem_cons_of_mem _ (List.mem_append_right _ h)) tyX4 tyX4_ok nmX4 hown hK hP hD hS rfl rfl 1 (by decide) (hts (Cond.fieldLink RX4 15 "WhoSpeaks$Tape" "count" "I") (List.mem_of_getElem? (i := 6) rfl)) (fun _ h9 => h9) rfl (by decide +kernel) rfl rfl (Nat.le_of_ble_eq_true rfl) dX4_init_14 (fun H locs hP hD hS => ?_)
  have hP : va_P D vwCl (X ++ [(h0, .inr (4, [.ref q7, .int 0])), (q7, .inl (cy 0, 12, .inl (fun _ => 0)))]) H := hP
  have hD : va_D A (X ++ [(h0, .inr (4, [.ref q7, .int 0])), (q7, .inl (cy 0, 12, .inl (fun _ => 0)))]) := hD
  exact rN (w1 := (fun (q : Nat) => X ++ [(h0, .inr (4, [.ref q, .int 0])), (q, .inl (cy 0, 12, .inl (fun _ => 0)))])) q7 hx hb hr hP hD hS hlocks dX4_init_17
set_option maxHeartbeats 4000000 in
set_option maxRecDepth 100000 in
theorem nwChain (l : Launch) (D : va_G) (cy : Nat → ClassId) (A : Nat → Prop) (X : va_W) (h0 : Nat) (hD0 : va_D A (X ++ [(h0, .inr (0, [.null, .null, .null, .null, .null, .null, .null, .null, .int 0]))])) : MN l yX0_init wsX0_init { frames := 1, cells := 8, slots := 352, locals := 12 } D cy A (X ++ [(h0, .inr (0, [.null, .null, .null, .null, .null, .null, .null, .null, .int 0]))]) [.ref h0] (fun (u : Nat → Nat) => X ++ [(h0, .inr (0, [.ref (u 8), .ref (u 9), .ref (u 10), .ref (u 11), .ref (u 12), .ref (u 13), .ref (u 14), .ref (u 15), .int 0])), (u 8, .inl (cy 2, 16, .inl (fun _ => 0))), (u 9, .inl (cy 0, 16, .inl (fun _ => 0))), (u 10, .inl (cy 0, 16, .inl (fun _ => 0))), (u 11, .inl (cy 0, 16, .inl (fun _ => 0))), (u 12, .inl (cy 0, 16, .inl (fun _ => 0))), (u 13, .inl (cy 1, 128, .inr (.inl (fun _ => 0)))), (u 14, .inl (cy 1, 128, .inr (.inl (fun _ => 0)))), (u 15, .inl (cy 0, 16, .inl (fun _ => 0)))]) 8 352 := by
  refine Met.ofW (cc := cX0_init) (maxL := 1) (ret := none) (by decide) rfl ?_
  intro p e s m args below meth c s₁ B hml hv
  obtain ⟨ha, hP, hK, hO, hA⟩ := hv
  have hx := B.exec
  have hb := B.bytes
  have hr := B.returns
  have hts := atoms_spec (ws := wsX0_init) B.pre
  have hown : s.vm.findClass RX0 = some m.cls := findClass_of_methodNamed B.named
  have hlocks := B.notSynchronized
  have hin0 : meth.name = "<init>" := (name_of_methodNamed B.named B.method).1
  have hS : va_S A s.heap s.heap [] := va_S.rf
  obtain ⟨ls, hl, he0⟩ := ent (m := m) ha (n := 1) (Nat.le_of_ble_eq_true rfl)
  refine W.eq he0 ?_
  have hl : lv_has ls 1 [(0, .ref h0)] := hl
  suffices hG : ∀ (H : Heap) (locs : List Loc), va_P D vwCl (X ++ [(h0, .inr (0, [.null, .null, .null, .null, .null, .null, .null, .null, .int 0]))]) H → va_D A (X ++ [(h0, .inr (0, [.null, .null, .null, .null, .null, .null, .null, .null, .int 0]))]) → va_S A s.heap H locs → W p l e (headSpec wsX0_init { frames := 1, cells := 8, slots := 352, locals := 12 }).room s m args below meth c H locs 0 0 (MQ below (QcN D A (fun (u : Nat → Nat) => X ++ [(h0, .inr (0, [.ref (u 8), .ref (u 9), .ref (u 10), .ref (u 11), .ref (u 12), .ref (u 13), .ref (u 14), .ref (u 15), .int 0])), (u 8, .inl (cy 2, 16, .inl (fun _ => 0))), (u 9, .inl (cy 0, 16, .inl (fun _ => 0))), (u 10, .inl (cy 0, 16, .inl (fun _ => 0))), (u 11, .inl (cy 0, 16, .inl (fun _ => 0))), (u 12, .inl (cy 0, 16, .inl (fun _ => 0))), (u 13, .inl (cy 1, 128, .inr (.inl (fun _ => 0)))), (u 14, .inl (cy 1, 128, .inr (.inl (fun _ => 0)))), (u 15, .inl (cy 0, 16, .inl (fun _ => 0)))])) args s 8 352 A) (F0 m 0 ls []) by exact hG s.heap [] hP hD0 va_S.rf
  clear hP hS
  intro H locs hP hD hS
  refine lv_aload_n hx hb dX0_init_0 rfl (lv_at hl 0 rfl) ?_
  refine W.objInit hx hb hown (hts (Cond.methodLink RX0 3 objectInit) (List.mem_of_getElem? (i := 1) rfl)) (hts (Cond.instanceMethod objectInit) (List.mem_of_getElem? (i := 2) rfl)) (hts (Cond.code objectInit ⟨#[0xb1]⟩ 1 none) (List.mem_of_getElem? (i := 3) rfl)) rfl (by rw [hml]; exact hl.1) rfl dX0_init_1 (Nat.le_of_ble_eq_true rfl) (Nat.le_of_ble_eq_true rfl) ?_
  refine W.eq (g2 := F0 m 4 ls []) rfl ?_
  refine lv_aload_n hx hb dX0_init_4 rfl (lv_at hl 0 rfl) ?_
  refine lv_bipush (v := 16) hx hb dX0_init_5 (by decide) ?_
  refine nwZ (N := 16) hx hb (hts (Cond.arrayClass .boolean) (List.mem_of_getElem? (i := 4) rfl)) hK hP hD hS hA (by decide) (by decide) (by decide) (Nat.le_of_ble_eq_true rfl) (Nat.le_of_ble_eq_true rfl) dX0_init_7 (fun q7 H hP hD hS => ?_)
  have hP : va_P D vwCl (X ++ [(h0, .inr (0, [.null, .null, .null, .null, .null, .null, .null, .null, .int 0])), (q7, .inl (cy 2, 16, .inl (fun _ => 0)))]) H := hP
  have hD : va_D A (X ++ [(h0, .inr (0, [.null, .null, .null, .null, .null, .null, .null, .null, .int 0])), (q7, .inl (cy 2, 16, .inl (fun _ => 0)))]) := hD
  refine ptF 0 (C := RX0) (T := TX0) (N := 9) (v := .ref q7) (ty := .array .boolean) hx hb hts (fun _ h => List.mem_cons_of_mem _ (List.mem_append_right _ h)) tyX0 tyX0_ok nmX0 hown hK hP hD hS rfl rfl 0 (by decide) (hts (Cond.fieldLink RX0 9 "WhoSpeaks$Chain" "speaking" "[Z") (List.mem_of_getElem? (i := 5) rfl)) (fun _ h9 => h9) rfl hin0 rfl (by decide +kernel) rfl rfl (Nat.le_of_ble_eq_true rfl) dX0_init_9 (fun H locs hP hD hS => ?_)
  have hP : va_P D vwCl (X ++ [(h0, .inr (0, [.ref q7, .null, .null, .null, .null, .null, .null, .null, .int 0])), (q7, .inl (cy 2, 16, .inl (fun _ => 0)))]) H := hP
  have hD : va_D A (X ++ [(h0, .inr (0, [.ref q7, .null, .null, .null, .null, .null, .null, .null, .int 0])), (q7, .inl (cy 2, 16, .inl (fun _ => 0)))]) := hD
  refine lv_aload_n hx hb dX0_init_12 rfl (lv_at hl 0 rfl) ?_
  refine lv_bipush (v := 16) hx hb dX0_init_13 (by decide) ?_
  refine nwI (N := 16) hx hb (hts (Cond.arrayClass .int) (List.mem_of_getElem? (i := 6) rfl)) hK hP hD hS hA (by decide) (by decide) (by decide) (Nat.le_of_ble_eq_true rfl) (Nat.le_of_ble_eq_true rfl) dX0_init_15 (fun q15 H hP hD hS => ?_)
  have hP : va_P D vwCl (X ++ [(h0, .inr (0, [.ref q7, .null, .null, .null, .null, .null, .null, .null, .int 0])), (q7, .inl (cy 2, 16, .inl (fun _ => 0))), (q15, .inl (cy 0, 16, .inl (fun _ => 0)))]) H := hP
  have hD : va_D A (X ++ [(h0, .inr (0, [.ref q7, .null, .null, .null, .null, .null, .null, .null, .int 0])), (q7, .inl (cy 2, 16, .inl (fun _ => 0))), (q15, .inl (cy 0, 16, .inl (fun _ => 0)))]) := hD
  refine ptF 0 (C := RX0) (T := TX0) (N := 9) (v := .ref q15) (ty := .array .int) hx hb hts (fun _ h => List.mem_cons_of_mem _ (List.mem_append_right _ h)) tyX0 tyX0_ok nmX0 hown hK hP hD hS rfl rfl 1 (by decide) (hts (Cond.fieldLink RX0 15 "WhoSpeaks$Chain" "owns" "[I") (List.mem_of_getElem? (i := 7) rfl)) (fun _ h9 => h9) rfl hin0 rfl (by decide +kernel) rfl rfl (Nat.le_of_ble_eq_true rfl) dX0_init_17 (fun H locs hP hD hS => ?_)
  have hP : va_P D vwCl (X ++ [(h0, .inr (0, [.ref q7, .ref q15, .null, .null, .null, .null, .null, .null, .int 0])), (q7, .inl (cy 2, 16, .inl (fun _ => 0))), (q15, .inl (cy 0, 16, .inl (fun _ => 0)))]) H := hP
  have hD : va_D A (X ++ [(h0, .inr (0, [.ref q7, .ref q15, .null, .null, .null, .null, .null, .null, .int 0])), (q7, .inl (cy 2, 16, .inl (fun _ => 0))), (q15, .inl (cy 0, 16, .inl (fun _ => 0)))]) := hD
  refine lv_aload_n hx hb dX0_init_20 rfl (lv_at hl 0 rfl) ?_
  refine lv_bipush (v := 16) hx hb dX0_init_21 (by decide) ?_
  refine nwI (N := 16) hx hb (hts (Cond.arrayClass .int) (List.mem_of_getElem? (i := 6) rfl)) hK hP hD hS hA (by decide) (by decide) (by decide) (Nat.le_of_ble_eq_true rfl) (Nat.le_of_ble_eq_true rfl) dX0_init_23 (fun q23 H hP hD hS => ?_)
  have hP : va_P D vwCl (X ++ [(h0, .inr (0, [.ref q7, .ref q15, .null, .null, .null, .null, .null, .null, .int 0])), (q7, .inl (cy 2, 16, .inl (fun _ => 0))), (q15, .inl (cy 0, 16, .inl (fun _ => 0))), (q23, .inl (cy 0, 16, .inl (fun _ => 0)))]) H := hP
  have hD : va_D A (X ++ [(h0, .inr (0, [.ref q7, .ref q15, .null, .null, .null, .null, .null, .null, .int 0])), (q7, .inl (cy 2, 16, .inl (fun _ => 0))), (q15, .inl (cy 0, 16, .inl (fun _ => 0))), (q23, .inl (cy 0, 16, .inl (fun _ => 0)))]) := hD
  refine ptF 0 (C := RX0) (T := TX0) (N := 9) (v := .ref q23) (ty := .array .int) hx hb hts (fun _ h => List.mem_cons_of_mem _ (List.mem_append_right _ h)) tyX0 tyX0_ok nmX0 hown hK hP hD hS rfl rfl 2 (by decide) (hts (Cond.fieldLink RX0 19 "WhoSpeaks$Chain" "links" "[I") (List.mem_of_getElem? (i := 8) rfl)) (fun _ h9 => h9) rfl hin0 rfl (by decide +kernel) rfl rfl (Nat.le_of_ble_eq_true rfl) dX0_init_25 (fun H locs hP hD hS => ?_)
  have hP : va_P D vwCl (X ++ [(h0, .inr (0, [.ref q7, .ref q15, .ref q23, .null, .null, .null, .null, .null, .int 0])), (q7, .inl (cy 2, 16, .inl (fun _ => 0))), (q15, .inl (cy 0, 16, .inl (fun _ => 0))), (q23, .inl (cy 0, 16, .inl (fun _ => 0)))]) H := hP
  have hD : va_D A (X ++ [(h0, .inr (0, [.ref q7, .ref q15, .ref q23, .null, .null, .null, .null, .null, .int 0])), (q7, .inl (cy 2, 16, .inl (fun _ => 0))), (q15, .inl (cy 0, 16, .inl (fun _ => 0))), (q23, .inl (cy 0, 16, .inl (fun _ => 0)))]) := hD
  refine lv_aload_n hx hb dX0_init_28 rfl (lv_at hl 0 rfl) ?_
  refine lv_bipush (v := 16) hx hb dX0_init_29 (by decide) ?_
  refine nwI (N := 16) hx hb (hts (Cond.arrayClass .int) (List.mem_of_getElem? (i := 6) rfl)) hK hP hD hS hA (by decide) (by decide) (by decide) (Nat.le_of_ble_eq_true rfl) (Nat.le_of_ble_eq_true rfl) dX0_init_31 (fun q31 H hP hD hS => ?_)
  have hP : va_P D vwCl (X ++ [(h0, .inr (0, [.ref q7, .ref q15, .ref q23, .null, .null, .null, .null, .null, .int 0])), (q7, .inl (cy 2, 16, .inl (fun _ => 0))), (q15, .inl (cy 0, 16, .inl (fun _ => 0))), (q23, .inl (cy 0, 16, .inl (fun _ => 0))), (q31, .inl (cy 0, 16, .inl (fun _ => 0)))]) H := hP
  have hD : va_D A (X ++ [(h0, .inr (0, [.ref q7, .ref q15, .ref q23, .null, .null, .null, .null, .null, .int 0])), (q7, .inl (cy 2, 16, .inl (fun _ => 0))), (q15, .inl (cy 0, 16, .inl (fun _ => 0))), (q23, .inl (cy 0, 16, .inl (fun _ => 0))), (q31, .inl (cy 0, 16, .inl (fun _ => 0)))]) := hD
  refine ptF 0 (C := RX0) (T := TX0) (N := 9) (v := .ref q31) (ty := .array .int) hx hb hts (fun _ h => List.mem_cons_of_mem _ (List.mem_append_right _ h)) tyX0 tyX0_ok nmX0 hown hK hP hD hS rfl rfl 3 (by decide) (hts (Cond.fieldLink RX0 22 "WhoSpeaks$Chain" "narrowed" "[I") (List.mem_of_getElem? (i := 9) rfl)) (fun _ h9 => h9) rfl hin0 rfl (by decide +kernel) rfl rfl (Nat.le_of_ble_eq_true rfl) dX0_init_33 (fun H locs hP hD hS => ?_)
  have hP : va_P D vwCl (X ++ [(h0, .inr (0, [.ref q7, .ref q15, .ref q23, .ref q31, .null, .null, .null, .null, .int 0])), (q7, .inl (cy 2, 16, .inl (fun _ => 0))), (q15, .inl (cy 0, 16, .inl (fun _ => 0))), (q23, .inl (cy 0, 16, .inl (fun _ => 0))), (q31, .inl (cy 0, 16, .inl (fun _ => 0)))]) H := hP
  have hD : va_D A (X ++ [(h0, .inr (0, [.ref q7, .ref q15, .ref q23, .ref q31, .null, .null, .null, .null, .int 0])), (q7, .inl (cy 2, 16, .inl (fun _ => 0))), (q15, .inl (cy 0, 16, .inl (fun _ => 0))), (q23, .inl (cy 0, 16, .inl (fun _ => 0))), (q31, .inl (cy 0, 16, .inl (fun _ => 0)))]) := hD
  refine lv_aload_n hx hb dX0_init_36 rfl (lv_at hl 0 rfl) ?_
  refine lv_bipush (v := 16) hx hb dX0_init_37 (by decide) ?_
  refine nwI (N := 16) hx hb (hts (Cond.arrayClass .int) (List.mem_of_getElem? (i := 6) rfl)) hK hP hD hS hA (by decide) (by decide) (by decide) (Nat.le_of_ble_eq_true rfl) (Nat.le_of_ble_eq_true rfl) dX0_init_39 (fun q39 H hP hD hS => ?_)
  have hP : va_P D vwCl (X ++ [(h0, .inr (0, [.ref q7, .ref q15, .ref q23, .ref q31, .null, .null, .null, .null, .int 0])), (q7, .inl (cy 2, 16, .inl (fun _ => 0))), (q15, .inl (cy 0, 16, .inl (fun _ => 0))), (q23, .inl (cy 0, 16, .inl (fun _ => 0))), (q31, .inl (cy 0, 16, .inl (fun _ => 0))), (q39, .inl (cy 0, 16, .inl (fun _ => 0)))]) H := hP
  have hD : va_D A (X ++ [(h0, .inr (0, [.ref q7, .ref q15, .ref q23, .ref q31, .null, .null, .null, .null, .int 0])), (q7, .inl (cy 2, 16, .inl (fun _ => 0))), (q15, .inl (cy 0, 16, .inl (fun _ => 0))), (q23, .inl (cy 0, 16, .inl (fun _ => 0))), (q31, .inl (cy 0, 16, .inl (fun _ => 0))), (q39, .inl (cy 0, 16, .inl (fun _ => 0)))]) := hD
  refine ptF 0 (C := RX0) (T := TX0) (N := 9) (v := .ref q39) (ty := .array .int) hx hb hts (fun _ h => List.mem_cons_of_mem _ (List.mem_append_right _ h)) tyX0 tyX0_ok nmX0 hown hK hP hD hS rfl rfl 4 (by decide) (hts (Cond.fieldLink RX0 25 "WhoSpeaks$Chain" "earlier" "[I") (List.mem_of_getElem? (i := 10) rfl)) (fun _ h9 => h9) rfl hin0 rfl (by decide +kernel) rfl rfl (Nat.le_of_ble_eq_true rfl) dX0_init_41 (fun H locs hP hD hS => ?_)
  have hP : va_P D vwCl (X ++ [(h0, .inr (0, [.ref q7, .ref q15, .ref q23, .ref q31, .ref q39, .null, .null, .null, .int 0])), (q7, .inl (cy 2, 16, .inl (fun _ => 0))), (q15, .inl (cy 0, 16, .inl (fun _ => 0))), (q23, .inl (cy 0, 16, .inl (fun _ => 0))), (q31, .inl (cy 0, 16, .inl (fun _ => 0))), (q39, .inl (cy 0, 16, .inl (fun _ => 0)))]) H := hP
  have hD : va_D A (X ++ [(h0, .inr (0, [.ref q7, .ref q15, .ref q23, .ref q31, .ref q39, .null, .null, .null, .int 0])), (q7, .inl (cy 2, 16, .inl (fun _ => 0))), (q15, .inl (cy 0, 16, .inl (fun _ => 0))), (q23, .inl (cy 0, 16, .inl (fun _ => 0))), (q31, .inl (cy 0, 16, .inl (fun _ => 0))), (q39, .inl (cy 0, 16, .inl (fun _ => 0)))]) := hD
  refine lv_aload_n hx hb dX0_init_44 rfl (lv_at hl 0 rfl) ?_
  refine lv_sipush (v := 128) hx hb dX0_init_45 (by decide) ?_
  refine nwL (N := 128) hx hb (hts (Cond.arrayClass .long) (List.mem_of_getElem? (i := 11) rfl)) hK hP hD hS hA (by decide) (by decide) (by decide) (Nat.le_of_ble_eq_true rfl) (Nat.le_of_ble_eq_true rfl) dX0_init_48 (fun q48 H hP hD hS => ?_)
  have hP : va_P D vwCl (X ++ [(h0, .inr (0, [.ref q7, .ref q15, .ref q23, .ref q31, .ref q39, .null, .null, .null, .int 0])), (q7, .inl (cy 2, 16, .inl (fun _ => 0))), (q15, .inl (cy 0, 16, .inl (fun _ => 0))), (q23, .inl (cy 0, 16, .inl (fun _ => 0))), (q31, .inl (cy 0, 16, .inl (fun _ => 0))), (q39, .inl (cy 0, 16, .inl (fun _ => 0))), (q48, .inl (cy 1, 128, .inr (.inl (fun _ => 0))))]) H := hP
  have hD : va_D A (X ++ [(h0, .inr (0, [.ref q7, .ref q15, .ref q23, .ref q31, .ref q39, .null, .null, .null, .int 0])), (q7, .inl (cy 2, 16, .inl (fun _ => 0))), (q15, .inl (cy 0, 16, .inl (fun _ => 0))), (q23, .inl (cy 0, 16, .inl (fun _ => 0))), (q31, .inl (cy 0, 16, .inl (fun _ => 0))), (q39, .inl (cy 0, 16, .inl (fun _ => 0))), (q48, .inl (cy 1, 128, .inr (.inl (fun _ => 0))))]) := hD
  refine ptF 0 (C := RX0) (T := TX0) (N := 9) (v := .ref q48) (ty := .array .long) hx hb hts (fun _ h => List.mem_cons_of_mem _ (List.mem_append_right _ h)) tyX0 tyX0_ok nmX0 hown hK hP hD hS rfl rfl 5 (by decide) (hts (Cond.fieldLink RX0 28 "WhoSpeaks$Chain" "heads" "[J") (List.mem_of_getElem? (i := 12) rfl)) (fun _ h9 => h9) rfl hin0 rfl (by decide +kernel) rfl rfl (Nat.le_of_ble_eq_true rfl) dX0_init_50 (fun H locs hP hD hS => ?_)
  have hP : va_P D vwCl (X ++ [(h0, .inr (0, [.ref q7, .ref q15, .ref q23, .ref q31, .ref q39, .ref q48, .null, .null, .int 0])), (q7, .inl (cy 2, 16, .inl (fun _ => 0))), (q15, .inl (cy 0, 16, .inl (fun _ => 0))), (q23, .inl (cy 0, 16, .inl (fun _ => 0))), (q31, .inl (cy 0, 16, .inl (fun _ => 0))), (q39, .inl (cy 0, 16, .inl (fun _ => 0))), (q48, .inl (cy 1, 128, .inr (.inl (fun _ => 0))))]) H := hP
  have hD : va_D A (X ++ [(h0, .inr (0, [.ref q7, .ref q15, .ref q23, .ref q31, .ref q39, .ref q48, .null, .null, .int 0])), (q7, .inl (cy 2, 16, .inl (fun _ => 0))), (q15, .inl (cy 0, 16, .inl (fun _ => 0))), (q23, .inl (cy 0, 16, .inl (fun _ => 0))), (q31, .inl (cy 0, 16, .inl (fun _ => 0))), (q39, .inl (cy 0, 16, .inl (fun _ => 0))), (q48, .inl (cy 1, 128, .inr (.inl (fun _ => 0))))]) := hD
  refine lv_aload_n hx hb dX0_init_53 rfl (lv_at hl 0 rfl) ?_
  refine lv_sipush (v := 128) hx hb dX0_init_54 (by decide) ?_
  refine nwL (N := 128) hx hb (hts (Cond.arrayClass .long) (List.mem_of_getElem? (i := 11) rfl)) hK hP hD hS hA (by decide) (by decide) (by decide) (Nat.le_of_ble_eq_true rfl) (Nat.le_of_ble_eq_true rfl) dX0_init_57 (fun q57 H hP hD hS => ?_)
  have hP : va_P D vwCl (X ++ [(h0, .inr (0, [.ref q7, .ref q15, .ref q23, .ref q31, .ref q39, .ref q48, .null, .null, .int 0])), (q7, .inl (cy 2, 16, .inl (fun _ => 0))), (q15, .inl (cy 0, 16, .inl (fun _ => 0))), (q23, .inl (cy 0, 16, .inl (fun _ => 0))), (q31, .inl (cy 0, 16, .inl (fun _ => 0))), (q39, .inl (cy 0, 16, .inl (fun _ => 0))), (q48, .inl (cy 1, 128, .inr (.inl (fun _ => 0)))), (q57, .inl (cy 1, 128, .inr (.inl (fun _ => 0))))]) H := hP
  have hD : va_D A (X ++ [(h0, .inr (0, [.ref q7, .ref q15, .ref q23, .ref q31, .ref q39, .ref q48, .null, .null, .int 0])), (q7, .inl (cy 2, 16, .inl (fun _ => 0))), (q15, .inl (cy 0, 16, .inl (fun _ => 0))), (q23, .inl (cy 0, 16, .inl (fun _ => 0))), (q31, .inl (cy 0, 16, .inl (fun _ => 0))), (q39, .inl (cy 0, 16, .inl (fun _ => 0))), (q48, .inl (cy 1, 128, .inr (.inl (fun _ => 0)))), (q57, .inl (cy 1, 128, .inr (.inl (fun _ => 0))))]) := hD
  refine ptF 0 (C := RX0) (T := TX0) (N := 9) (v := .ref q57) (ty := .array .long) hx hb hts (fun _ h => List.mem_cons_of_mem _ (List.mem_append_right _ h)) tyX0 tyX0_ok nmX0 hown hK hP hD hS rfl rfl 6 (by decide) (hts (Cond.fieldLink RX0 32 "WhoSpeaks$Chain" "tails" "[J") (List.mem_of_getElem? (i := 13) rfl)) (fun _ h9 => h9) rfl hin0 rfl (by decide +kernel) rfl rfl (Nat.le_of_ble_eq_true rfl) dX0_init_59 (fun H locs hP hD hS => ?_)
  have hP : va_P D vwCl (X ++ [(h0, .inr (0, [.ref q7, .ref q15, .ref q23, .ref q31, .ref q39, .ref q48, .ref q57, .null, .int 0])), (q7, .inl (cy 2, 16, .inl (fun _ => 0))), (q15, .inl (cy 0, 16, .inl (fun _ => 0))), (q23, .inl (cy 0, 16, .inl (fun _ => 0))), (q31, .inl (cy 0, 16, .inl (fun _ => 0))), (q39, .inl (cy 0, 16, .inl (fun _ => 0))), (q48, .inl (cy 1, 128, .inr (.inl (fun _ => 0)))), (q57, .inl (cy 1, 128, .inr (.inl (fun _ => 0))))]) H := hP
  have hD : va_D A (X ++ [(h0, .inr (0, [.ref q7, .ref q15, .ref q23, .ref q31, .ref q39, .ref q48, .ref q57, .null, .int 0])), (q7, .inl (cy 2, 16, .inl (fun _ => 0))), (q15, .inl (cy 0, 16, .inl (fun _ => 0))), (q23, .inl (cy 0, 16, .inl (fun _ => 0))), (q31, .inl (cy 0, 16, .inl (fun _ => 0))), (q39, .inl (cy 0, 16, .inl (fun _ => 0))), (q48, .inl (cy 1, 128, .inr (.inl (fun _ => 0)))), (q57, .inl (cy 1, 128, .inr (.inl (fun _ => 0))))]) := hD
  refine lv_aload_n hx hb dX0_init_62 rfl (lv_at hl 0 rfl) ?_
  refine lv_bipush (v := 16) hx hb dX0_init_63 (by decide) ?_
  refine nwI (N := 16) hx hb (hts (Cond.arrayClass .int) (List.mem_of_getElem? (i := 6) rfl)) hK hP hD hS hA (by decide) (by decide) (by decide) (Nat.le_of_ble_eq_true rfl) (Nat.le_of_ble_eq_true rfl) dX0_init_65 (fun q65 H hP hD hS => ?_)
  have hP : va_P D vwCl (X ++ [(h0, .inr (0, [.ref q7, .ref q15, .ref q23, .ref q31, .ref q39, .ref q48, .ref q57, .null, .int 0])), (q7, .inl (cy 2, 16, .inl (fun _ => 0))), (q15, .inl (cy 0, 16, .inl (fun _ => 0))), (q23, .inl (cy 0, 16, .inl (fun _ => 0))), (q31, .inl (cy 0, 16, .inl (fun _ => 0))), (q39, .inl (cy 0, 16, .inl (fun _ => 0))), (q48, .inl (cy 1, 128, .inr (.inl (fun _ => 0)))), (q57, .inl (cy 1, 128, .inr (.inl (fun _ => 0)))), (q65, .inl (cy 0, 16, .inl (fun _ => 0)))]) H := hP
  have hD : va_D A (X ++ [(h0, .inr (0, [.ref q7, .ref q15, .ref q23, .ref q31, .ref q39, .ref q48, .ref q57, .null, .int 0])), (q7, .inl (cy 2, 16, .inl (fun _ => 0))), (q15, .inl (cy 0, 16, .inl (fun _ => 0))), (q23, .inl (cy 0, 16, .inl (fun _ => 0))), (q31, .inl (cy 0, 16, .inl (fun _ => 0))), (q39, .inl (cy 0, 16, .inl (fun _ => 0))), (q48, .inl (cy 1, 128, .inr (.inl (fun _ => 0)))), (q57, .inl (cy 1, 128, .inr (.inl (fun _ => 0)))), (q65, .inl (cy 0, 16, .inl (fun _ => 0)))]) := hD
  refine ptF 0 (C := RX0) (T := TX0) (N := 9) (v := .ref q65) (ty := .array .int) hx hb hts (fun _ h => List.mem_cons_of_mem _ (List.mem_append_right _ h)) tyX0 tyX0_ok nmX0 hown hK hP hD hS rfl rfl 7 (by decide) (hts (Cond.fieldLink RX0 35 "WhoSpeaks$Chain" "sures" "[I") (List.mem_of_getElem? (i := 14) rfl)) (fun _ h9 => h9) rfl hin0 rfl (by decide +kernel) rfl rfl (Nat.le_of_ble_eq_true rfl) dX0_init_67 (fun H locs hP hD hS => ?_)
  have hP : va_P D vwCl (X ++ [(h0, .inr (0, [.ref q7, .ref q15, .ref q23, .ref q31, .ref q39, .ref q48, .ref q57, .ref q65, .int 0])), (q7, .inl (cy 2, 16, .inl (fun _ => 0))), (q15, .inl (cy 0, 16, .inl (fun _ => 0))), (q23, .inl (cy 0, 16, .inl (fun _ => 0))), (q31, .inl (cy 0, 16, .inl (fun _ => 0))), (q39, .inl (cy 0, 16, .inl (fun _ => 0))), (q48, .inl (cy 1, 128, .inr (.inl (fun _ => 0)))), (q57, .inl (cy 1, 128, .inr (.inl (fun _ => 0)))), (q65, .inl (cy 0, 16, .inl (fun _ => 0)))]) H := hP
  have hD : va_D A (X ++ [(h0, .inr (0, [.ref q7, .ref q15, .ref q23, .ref q31, .ref q39, .ref q48, .ref q57, .ref q65, .int 0])), (q7, .inl (cy 2, 16, .inl (fun _ => 0))), (q15, .inl (cy 0, 16, .inl (fun _ => 0))), (q23, .inl (cy 0, 16, .inl (fun _ => 0))), (q31, .inl (cy 0, 16, .inl (fun _ => 0))), (q39, .inl (cy 0, 16, .inl (fun _ => 0))), (q48, .inl (cy 1, 128, .inr (.inl (fun _ => 0)))), (q57, .inl (cy 1, 128, .inr (.inl (fun _ => 0)))), (q65, .inl (cy 0, 16, .inl (fun _ => 0)))]) := hD
  refine lv_aload_n hx hb dX0_init_70 rfl (lv_at hl 0 rfl) ?_
  refine lv_iconst (v := 0) hx hb dX0_init_71 (by decide) ?_
  refine ptV 0 (C := RX0) (T := TX0) (N := 9) (v := .int 0) (ty := .int) hx hb hts (fun _ h => List.mem_cons_of_mem _ (List.mem_append_right _ h)) tyX0 tyX0_ok nmX0 hown hK hP hD hS rfl rfl 8 (by decide) (hts (Cond.fieldLink RX0 38 "WhoSpeaks$Chain" "count" "I") (List.mem_of_getElem? (i := 15) rfl)) (fun _ h9 => h9) rfl (by decide +kernel) rfl rfl (Nat.le_of_ble_eq_true rfl) dX0_init_72 (fun H locs hP hD hS => ?_)
  have hP : va_P D vwCl (X ++ [(h0, .inr (0, [.ref q7, .ref q15, .ref q23, .ref q31, .ref q39, .ref q48, .ref q57, .ref q65, .int 0])), (q7, .inl (cy 2, 16, .inl (fun _ => 0))), (q15, .inl (cy 0, 16, .inl (fun _ => 0))), (q23, .inl (cy 0, 16, .inl (fun _ => 0))), (q31, .inl (cy 0, 16, .inl (fun _ => 0))), (q39, .inl (cy 0, 16, .inl (fun _ => 0))), (q48, .inl (cy 1, 128, .inr (.inl (fun _ => 0)))), (q57, .inl (cy 1, 128, .inr (.inl (fun _ => 0)))), (q65, .inl (cy 0, 16, .inl (fun _ => 0)))]) H := hP
  have hD : va_D A (X ++ [(h0, .inr (0, [.ref q7, .ref q15, .ref q23, .ref q31, .ref q39, .ref q48, .ref q57, .ref q65, .int 0])), (q7, .inl (cy 2, 16, .inl (fun _ => 0))), (q15, .inl (cy 0, 16, .inl (fun _ => 0))), (q23, .inl (cy 0, 16, .inl (fun _ => 0))), (q31, .inl (cy 0, 16, .inl (fun _ => 0))), (q39, .inl (cy 0, 16, .inl (fun _ => 0))), (q48, .inl (cy 1, 128, .inr (.inl (fun _ => 0)))), (q57, .inl (cy 1, 128, .inr (.inl (fun _ => 0)))), (q65, .inl (cy 0, 16, .inl (fun _ => 0)))]) := hD
  exact rN (w1 := (fun (u : Nat → Nat) => X ++ [(h0, .inr (0, [.ref (u 8), .ref (u 9), .ref (u 10), .ref (u 11), .ref (u 12), .ref (u 13), .ref (u 14), .ref (u 15), .int 0])), (u 8, .inl (cy 2, 16, .inl (fun _ => 0))), (u 9, .inl (cy 0, 16, .inl (fun _ => 0))), (u 10, .inl (cy 0, 16, .inl (fun _ => 0))), (u 11, .inl (cy 0, 16, .inl (fun _ => 0))), (u 12, .inl (cy 0, 16, .inl (fun _ => 0))), (u 13, .inl (cy 1, 128, .inr (.inl (fun _ => 0)))), (u 14, .inl (cy 1, 128, .inr (.inl (fun _ => 0)))), (u 15, .inl (cy 0, 16, .inl (fun _ => 0)))])) (fun k => [q7, q15, q23, q31, q39, q48, q57, q65].getD (k - 8) 0) hx hb hr hP hD hS hlocks dX0_init_75
set_option maxHeartbeats 4000000 in
set_option maxRecDepth 100000 in
theorem nwForget (l : Launch) (D : va_G) (cy : Nat → ClassId) (A : Nat → Prop) (X : va_W) (h0 k0 p0 : Nat) (hD0 : va_D A (X ++ [(h0, .inr (1, [.ref k0, .ref p0, .int 0, .int 0, .int 0, .int 0, .int 0, .int 0, .int 0, .int 0, .int 0, .int 0, .int 0, .int 0])), (k0, .inl (cy 0, 12, .inl (fun _ => 0))), (p0, .inl (cy 0, 12, .inl (fun _ => 0)))])) : MN l yX1_forgetAll wsX1_forgetAll { frames := 0, cells := 0, slots := 0, locals := 0 } D cy A (X ++ [(h0, .inr (1, [.ref k0, .ref p0, .int 0, .int 0, .int 0, .int 0, .int 0, .int 0, .int 0, .int 0, .int 0, .int 0, .int 0, .int 0])), (k0, .inl (cy 0, 12, .inl (fun _ => 0))), (p0, .inl (cy 0, 12, .inl (fun _ => 0)))]) [.ref h0] (fun (_ : Unit) => X ++ [(h0, .inr (1, [.ref k0, .ref p0, .int 0, .int 0, .int 0, .int (-9), .int 0, .int 0, .int 0, .int 0, .int 255, .int 0, .int 0, .int 255])), (k0, .inl (cy 0, 12, .inl (fun _ => 0))), (p0, .inl (cy 0, 12, .inl (fun _ => 0)))]) 0 0 := by
  refine Met.ofW (cc := cX1_forgetAll) (maxL := 1) (ret := none) (by decide) rfl ?_
  intro p e s m args below meth c s₁ B hml hv
  obtain ⟨ha, hP, hK, hO, hA⟩ := hv
  have hx := B.exec
  have hb := B.bytes
  have hr := B.returns
  have hts := atoms_spec (ws := wsX1_forgetAll) B.pre
  have hown : s.vm.findClass RX1 = some m.cls := findClass_of_methodNamed B.named
  have hlocks := B.notSynchronized
  have hin0 : meth.name = "forgetAll" := (name_of_methodNamed B.named B.method).1
  have hS : va_S A s.heap s.heap [] := va_S.rf
  obtain ⟨ls, hl, he0⟩ := ent (m := m) ha (n := 1) (Nat.le_of_ble_eq_true rfl)
  refine W.eq he0 ?_
  have hl : lv_has ls 1 [(0, .ref h0)] := hl
  suffices hG : ∀ (H : Heap) (locs : List Loc), va_P D vwCl (X ++ [(h0, .inr (1, [.ref k0, .ref p0, .int 0, .int 0, .int 0, .int 0, .int 0, .int 0, .int 0, .int 0, .int 0, .int 0, .int 0, .int 0])), (k0, .inl (cy 0, 12, .inl (fun _ => 0))), (p0, .inl (cy 0, 12, .inl (fun _ => 0)))]) H → va_D A (X ++ [(h0, .inr (1, [.ref k0, .ref p0, .int 0, .int 0, .int 0, .int 0, .int 0, .int 0, .int 0, .int 0, .int 0, .int 0, .int 0, .int 0])), (k0, .inl (cy 0, 12, .inl (fun _ => 0))), (p0, .inl (cy 0, 12, .inl (fun _ => 0)))]) → va_S A s.heap H locs → W p l e (headSpec wsX1_forgetAll { frames := 0, cells := 0, slots := 0, locals := 0 }).room s m args below meth c H locs 0 0 (MQ below (QcN D A (fun (_ : Unit) => X ++ [(h0, .inr (1, [.ref k0, .ref p0, .int 0, .int 0, .int 0, .int (-9), .int 0, .int 0, .int 0, .int 0, .int 255, .int 0, .int 0, .int 255])), (k0, .inl (cy 0, 12, .inl (fun _ => 0))), (p0, .inl (cy 0, 12, .inl (fun _ => 0)))])) args s 0 0 A) (F0 m 0 ls []) by exact hG s.heap [] hP hD0 va_S.rf
  clear hP hS
  intro H locs hP hD hS
  refine lv_aload_n hx hb dX1_forgetAll_0 rfl (lv_at hl 0 rfl) ?_
  refine lv_iconst (v := 0) hx hb dX1_forgetAll_1 (by decide) ?_
  refine ptV 0 (C := RX1) (T := TX1) (N := 14) (v := .int 0) (ty := .int) hx hb hts (fun _ h => List.mem_cons_of_mem _ (List.mem_append_right _ h)) tyX1 tyX1_ok nmX1 hown hK hP hD hS rfl rfl 2 (by decide) (hts (Cond.fieldLink RX1 21 "WhoSpeaks$Paragraph" "count" "I") (List.mem_of_getElem? (i := 1) rfl)) (fun _ h9 => h9) rfl (by decide +kernel) rfl rfl (Nat.le_of_ble_eq_true rfl) dX1_forgetAll_2 (fun H locs hP hD hS => ?_)
  have hP : va_P D vwCl (X ++ [(h0, .inr (1, [.ref k0, .ref p0, .int 0, .int 0, .int 0, .int 0, .int 0, .int 0, .int 0, .int 0, .int 0, .int 0, .int 0, .int 0])), (k0, .inl (cy 0, 12, .inl (fun _ => 0))), (p0, .inl (cy 0, 12, .inl (fun _ => 0)))]) H := hP
  have hD : va_D A (X ++ [(h0, .inr (1, [.ref k0, .ref p0, .int 0, .int 0, .int 0, .int 0, .int 0, .int 0, .int 0, .int 0, .int 0, .int 0, .int 0, .int 0])), (k0, .inl (cy 0, 12, .inl (fun _ => 0))), (p0, .inl (cy 0, 12, .inl (fun _ => 0)))]) := hD
  refine lv_aload_n hx hb dX1_forgetAll_5 rfl (lv_at hl 0 rfl) ?_
  refine lv_iconst (v := 0) hx hb dX1_forgetAll_6 (by decide) ?_
  refine ptV 0 (C := RX1) (T := TX1) (N := 14) (v := .int 0) (ty := .boolean) hx hb hts (fun _ h => List.mem_cons_of_mem _ (List.mem_append_right _ h)) tyX1 tyX1_ok nmX1 hown hK hP hD hS rfl rfl 3 (by decide) (hts (Cond.fieldLink RX1 25 "WhoSpeaks$Paragraph" "on" "Z") (List.mem_of_getElem? (i := 2) rfl)) (fun _ h9 => h9) rfl (by decide +kernel) rfl rfl (Nat.le_of_ble_eq_true rfl) dX1_forgetAll_7 (fun H locs hP hD hS => ?_)
  have hP : va_P D vwCl (X ++ [(h0, .inr (1, [.ref k0, .ref p0, .int 0, .int 0, .int 0, .int 0, .int 0, .int 0, .int 0, .int 0, .int 0, .int 0, .int 0, .int 0])), (k0, .inl (cy 0, 12, .inl (fun _ => 0))), (p0, .inl (cy 0, 12, .inl (fun _ => 0)))]) H := hP
  have hD : va_D A (X ++ [(h0, .inr (1, [.ref k0, .ref p0, .int 0, .int 0, .int 0, .int 0, .int 0, .int 0, .int 0, .int 0, .int 0, .int 0, .int 0, .int 0])), (k0, .inl (cy 0, 12, .inl (fun _ => 0))), (p0, .inl (cy 0, 12, .inl (fun _ => 0)))]) := hD
  refine lv_aload_n hx hb dX1_forgetAll_10 rfl (lv_at hl 0 rfl) ?_
  refine lv_iconst (v := 0) hx hb dX1_forgetAll_11 (by decide) ?_
  refine ptV 0 (C := RX1) (T := TX1) (N := 14) (v := .int 0) (ty := .int) hx hb hts (fun _ h => List.mem_cons_of_mem _ (List.mem_append_right _ h)) tyX1 tyX1_ok nmX1 hown hK hP hD hS rfl rfl 4 (by decide) (hts (Cond.fieldLink RX1 29 "WhoSpeaks$Paragraph" "here" "I") (List.mem_of_getElem? (i := 3) rfl)) (fun _ h9 => h9) rfl (by decide +kernel) rfl rfl (Nat.le_of_ble_eq_true rfl) dX1_forgetAll_12 (fun H locs hP hD hS => ?_)
  have hP : va_P D vwCl (X ++ [(h0, .inr (1, [.ref k0, .ref p0, .int 0, .int 0, .int 0, .int 0, .int 0, .int 0, .int 0, .int 0, .int 0, .int 0, .int 0, .int 0])), (k0, .inl (cy 0, 12, .inl (fun _ => 0))), (p0, .inl (cy 0, 12, .inl (fun _ => 0)))]) H := hP
  have hD : va_D A (X ++ [(h0, .inr (1, [.ref k0, .ref p0, .int 0, .int 0, .int 0, .int 0, .int 0, .int 0, .int 0, .int 0, .int 0, .int 0, .int 0, .int 0])), (k0, .inl (cy 0, 12, .inl (fun _ => 0))), (p0, .inl (cy 0, 12, .inl (fun _ => 0)))]) := hD
  refine lv_aload_n hx hb dX1_forgetAll_15 rfl (lv_at hl 0 rfl) ?_
  refine lv_bipush (v := (-9)) hx hb dX1_forgetAll_16 (by decide) ?_
  refine ptV 0 (C := RX1) (T := TX1) (N := 14) (v := .int (-9)) (ty := .int) hx hb hts (fun _ h => List.mem_cons_of_mem _ (List.mem_append_right _ h)) tyX1 tyX1_ok nmX1 hown hK hP hD hS rfl rfl 5 (by decide) (hts (Cond.fieldLink RX1 32 "WhoSpeaks$Paragraph" "hint" "I") (List.mem_of_getElem? (i := 4) rfl)) (fun _ h9 => h9) rfl (by decide +kernel) rfl rfl (Nat.le_of_ble_eq_true rfl) dX1_forgetAll_18 (fun H locs hP hD hS => ?_)
  have hP : va_P D vwCl (X ++ [(h0, .inr (1, [.ref k0, .ref p0, .int 0, .int 0, .int 0, .int (-9), .int 0, .int 0, .int 0, .int 0, .int 0, .int 0, .int 0, .int 0])), (k0, .inl (cy 0, 12, .inl (fun _ => 0))), (p0, .inl (cy 0, 12, .inl (fun _ => 0)))]) H := hP
  have hD : va_D A (X ++ [(h0, .inr (1, [.ref k0, .ref p0, .int 0, .int 0, .int 0, .int (-9), .int 0, .int 0, .int 0, .int 0, .int 0, .int 0, .int 0, .int 0])), (k0, .inl (cy 0, 12, .inl (fun _ => 0))), (p0, .inl (cy 0, 12, .inl (fun _ => 0)))]) := hD
  refine lv_aload_n hx hb dX1_forgetAll_21 rfl (lv_at hl 0 rfl) ?_
  refine lv_iconst (v := 0) hx hb dX1_forgetAll_22 (by decide) ?_
  refine ptV 0 (C := RX1) (T := TX1) (N := 14) (v := .int 0) (ty := .int) hx hb hts (fun _ h => List.mem_cons_of_mem _ (List.mem_append_right _ h)) tyX1 tyX1_ok nmX1 hown hK hP hD hS rfl rfl 6 (by decide) (hts (Cond.fieldLink RX1 35 "WhoSpeaks$Paragraph" "quoteCount" "I") (List.mem_of_getElem? (i := 5) rfl)) (fun _ h9 => h9) rfl (by decide +kernel) rfl rfl (Nat.le_of_ble_eq_true rfl) dX1_forgetAll_23 (fun H locs hP hD hS => ?_)
  have hP : va_P D vwCl (X ++ [(h0, .inr (1, [.ref k0, .ref p0, .int 0, .int 0, .int 0, .int (-9), .int 0, .int 0, .int 0, .int 0, .int 0, .int 0, .int 0, .int 0])), (k0, .inl (cy 0, 12, .inl (fun _ => 0))), (p0, .inl (cy 0, 12, .inl (fun _ => 0)))]) H := hP
  have hD : va_D A (X ++ [(h0, .inr (1, [.ref k0, .ref p0, .int 0, .int 0, .int 0, .int (-9), .int 0, .int 0, .int 0, .int 0, .int 0, .int 0, .int 0, .int 0])), (k0, .inl (cy 0, 12, .inl (fun _ => 0))), (p0, .inl (cy 0, 12, .inl (fun _ => 0)))]) := hD
  refine lv_aload_n hx hb dX1_forgetAll_26 rfl (lv_at hl 0 rfl) ?_
  refine lv_iconst (v := 0) hx hb dX1_forgetAll_27 (by decide) ?_
  refine ptV 0 (C := RX1) (T := TX1) (N := 14) (v := .int 0) (ty := .int) hx hb hts (fun _ h => List.mem_cons_of_mem _ (List.mem_append_right _ h)) tyX1 tyX1_ok nmX1 hown hK hP hD hS rfl rfl 7 (by decide) (hts (Cond.fieldLink RX1 38 "WhoSpeaks$Paragraph" "mentioned" "I") (List.mem_of_getElem? (i := 6) rfl)) (fun _ h9 => h9) rfl (by decide +kernel) rfl rfl (Nat.le_of_ble_eq_true rfl) dX1_forgetAll_28 (fun H locs hP hD hS => ?_)
  have hP : va_P D vwCl (X ++ [(h0, .inr (1, [.ref k0, .ref p0, .int 0, .int 0, .int 0, .int (-9), .int 0, .int 0, .int 0, .int 0, .int 0, .int 0, .int 0, .int 0])), (k0, .inl (cy 0, 12, .inl (fun _ => 0))), (p0, .inl (cy 0, 12, .inl (fun _ => 0)))]) H := hP
  have hD : va_D A (X ++ [(h0, .inr (1, [.ref k0, .ref p0, .int 0, .int 0, .int 0, .int (-9), .int 0, .int 0, .int 0, .int 0, .int 0, .int 0, .int 0, .int 0])), (k0, .inl (cy 0, 12, .inl (fun _ => 0))), (p0, .inl (cy 0, 12, .inl (fun _ => 0)))]) := hD
  refine lv_aload_n hx hb dX1_forgetAll_31 rfl (lv_at hl 0 rfl) ?_
  refine lv_iconst (v := 0) hx hb dX1_forgetAll_32 (by decide) ?_
  refine ptV 0 (C := RX1) (T := TX1) (N := 14) (v := .int 0) (ty := .int) hx hb hts (fun _ h => List.mem_cons_of_mem _ (List.mem_append_right _ h)) tyX1 tyX1_ok nmX1 hown hK hP hD hS rfl rfl 8 (by decide) (hts (Cond.fieldLink RX1 41 "WhoSpeaks$Paragraph" "spokenTo" "I") (List.mem_of_getElem? (i := 7) rfl)) (fun _ h9 => h9) rfl (by decide +kernel) rfl rfl (Nat.le_of_ble_eq_true rfl) dX1_forgetAll_33 (fun H locs hP hD hS => ?_)
  have hP : va_P D vwCl (X ++ [(h0, .inr (1, [.ref k0, .ref p0, .int 0, .int 0, .int 0, .int (-9), .int 0, .int 0, .int 0, .int 0, .int 0, .int 0, .int 0, .int 0])), (k0, .inl (cy 0, 12, .inl (fun _ => 0))), (p0, .inl (cy 0, 12, .inl (fun _ => 0)))]) H := hP
  have hD : va_D A (X ++ [(h0, .inr (1, [.ref k0, .ref p0, .int 0, .int 0, .int 0, .int (-9), .int 0, .int 0, .int 0, .int 0, .int 0, .int 0, .int 0, .int 0])), (k0, .inl (cy 0, 12, .inl (fun _ => 0))), (p0, .inl (cy 0, 12, .inl (fun _ => 0)))]) := hD
  refine lv_aload_n hx hb dX1_forgetAll_36 rfl (lv_at hl 0 rfl) ?_
  refine lv_iconst (v := 0) hx hb dX1_forgetAll_37 (by decide) ?_
  refine ptV 0 (C := RX1) (T := TX1) (N := 14) (v := .int 0) (ty := .int) hx hb hts (fun _ h => List.mem_cons_of_mem _ (List.mem_append_right _ h)) tyX1 tyX1_ok nmX1 hown hK hP hD hS rfl rfl 9 (by decide) (hts (Cond.fieldLink RX1 44 "WhoSpeaks$Paragraph" "verbCount" "I") (List.mem_of_getElem? (i := 8) rfl)) (fun _ h9 => h9) rfl (by decide +kernel) rfl rfl (Nat.le_of_ble_eq_true rfl) dX1_forgetAll_38 (fun H locs hP hD hS => ?_)
  have hP : va_P D vwCl (X ++ [(h0, .inr (1, [.ref k0, .ref p0, .int 0, .int 0, .int 0, .int (-9), .int 0, .int 0, .int 0, .int 0, .int 0, .int 0, .int 0, .int 0])), (k0, .inl (cy 0, 12, .inl (fun _ => 0))), (p0, .inl (cy 0, 12, .inl (fun _ => 0)))]) H := hP
  have hD : va_D A (X ++ [(h0, .inr (1, [.ref k0, .ref p0, .int 0, .int 0, .int 0, .int (-9), .int 0, .int 0, .int 0, .int 0, .int 0, .int 0, .int 0, .int 0])), (k0, .inl (cy 0, 12, .inl (fun _ => 0))), (p0, .inl (cy 0, 12, .inl (fun _ => 0)))]) := hD
  refine lv_aload_n hx hb dX1_forgetAll_41 rfl (lv_at hl 0 rfl) ?_
  refine lv_sipush (v := 255) hx hb dX1_forgetAll_42 (by decide) ?_
  refine ptV 0 (C := RX1) (T := TX1) (N := 14) (v := .int 255) (ty := .int) hx hb hts (fun _ h => List.mem_cons_of_mem _ (List.mem_append_right _ h)) tyX1 tyX1_ok nmX1 hown hK hP hD hS rfl rfl 10 (by decide) (hts (Cond.fieldLink RX1 47 "WhoSpeaks$Paragraph" "verbNames" "I") (List.mem_of_getElem? (i := 9) rfl)) (fun _ h9 => h9) rfl (by decide +kernel) rfl rfl (Nat.le_of_ble_eq_true rfl) dX1_forgetAll_45 (fun H locs hP hD hS => ?_)
  have hP : va_P D vwCl (X ++ [(h0, .inr (1, [.ref k0, .ref p0, .int 0, .int 0, .int 0, .int (-9), .int 0, .int 0, .int 0, .int 0, .int 255, .int 0, .int 0, .int 0])), (k0, .inl (cy 0, 12, .inl (fun _ => 0))), (p0, .inl (cy 0, 12, .inl (fun _ => 0)))]) H := hP
  have hD : va_D A (X ++ [(h0, .inr (1, [.ref k0, .ref p0, .int 0, .int 0, .int 0, .int (-9), .int 0, .int 0, .int 0, .int 0, .int 255, .int 0, .int 0, .int 0])), (k0, .inl (cy 0, 12, .inl (fun _ => 0))), (p0, .inl (cy 0, 12, .inl (fun _ => 0)))]) := hD
  refine lv_aload_n hx hb dX1_forgetAll_48 rfl (lv_at hl 0 rfl) ?_
  refine lv_iconst (v := 0) hx hb dX1_forgetAll_49 (by decide) ?_
  refine ptV 0 (C := RX1) (T := TX1) (N := 14) (v := .int 0) (ty := .boolean) hx hb hts (fun _ h => List.mem_cons_of_mem _ (List.mem_append_right _ h)) tyX1 tyX1_ok nmX1 hown hK hP hD hS rfl rfl 11 (by decide) (hts (Cond.fieldLink RX1 50 "WhoSpeaks$Paragraph" "heSpeaks" "Z") (List.mem_of_getElem? (i := 10) rfl)) (fun _ h9 => h9) rfl (by decide +kernel) rfl rfl (Nat.le_of_ble_eq_true rfl) dX1_forgetAll_50 (fun H locs hP hD hS => ?_)
  have hP : va_P D vwCl (X ++ [(h0, .inr (1, [.ref k0, .ref p0, .int 0, .int 0, .int 0, .int (-9), .int 0, .int 0, .int 0, .int 0, .int 255, .int 0, .int 0, .int 0])), (k0, .inl (cy 0, 12, .inl (fun _ => 0))), (p0, .inl (cy 0, 12, .inl (fun _ => 0)))]) H := hP
  have hD : va_D A (X ++ [(h0, .inr (1, [.ref k0, .ref p0, .int 0, .int 0, .int 0, .int (-9), .int 0, .int 0, .int 0, .int 0, .int 255, .int 0, .int 0, .int 0])), (k0, .inl (cy 0, 12, .inl (fun _ => 0))), (p0, .inl (cy 0, 12, .inl (fun _ => 0)))]) := hD
  refine lv_aload_n hx hb dX1_forgetAll_53 rfl (lv_at hl 0 rfl) ?_
  refine lv_iconst (v := 0) hx hb dX1_forgetAll_54 (by decide) ?_
  refine ptV 0 (C := RX1) (T := TX1) (N := 14) (v := .int 0) (ty := .boolean) hx hb hts (fun _ h => List.mem_cons_of_mem _ (List.mem_append_right _ h)) tyX1 tyX1_ok nmX1 hown hK hP hD hS rfl rfl 12 (by decide) (hts (Cond.fieldLink RX1 53 "WhoSpeaks$Paragraph" "sheSpeaks" "Z") (List.mem_of_getElem? (i := 11) rfl)) (fun _ h9 => h9) rfl (by decide +kernel) rfl rfl (Nat.le_of_ble_eq_true rfl) dX1_forgetAll_55 (fun H locs hP hD hS => ?_)
  have hP : va_P D vwCl (X ++ [(h0, .inr (1, [.ref k0, .ref p0, .int 0, .int 0, .int 0, .int (-9), .int 0, .int 0, .int 0, .int 0, .int 255, .int 0, .int 0, .int 0])), (k0, .inl (cy 0, 12, .inl (fun _ => 0))), (p0, .inl (cy 0, 12, .inl (fun _ => 0)))]) H := hP
  have hD : va_D A (X ++ [(h0, .inr (1, [.ref k0, .ref p0, .int 0, .int 0, .int 0, .int (-9), .int 0, .int 0, .int 0, .int 0, .int 255, .int 0, .int 0, .int 0])), (k0, .inl (cy 0, 12, .inl (fun _ => 0))), (p0, .inl (cy 0, 12, .inl (fun _ => 0)))]) := hD
  refine lv_aload_n hx hb dX1_forgetAll_58 rfl (lv_at hl 0 rfl) ?_
  refine lv_sipush (v := 255) hx hb dX1_forgetAll_59 (by decide) ?_
  refine ptV 0 (C := RX1) (T := TX1) (N := 14) (v := .int 255) (ty := .int) hx hb hts (fun _ h => List.mem_cons_of_mem _ (List.mem_append_right _ h)) tyX1 tyX1_ok nmX1 hown hK hP hD hS rfl rfl 13 (by decide) (hts (Cond.fieldLink RX1 56 "WhoSpeaks$Paragraph" "doers" "I") (List.mem_of_getElem? (i := 12) rfl)) (fun _ h9 => h9) rfl (by decide +kernel) rfl rfl (Nat.le_of_ble_eq_true rfl) dX1_forgetAll_62 (fun H locs hP hD hS => ?_)
  have hP : va_P D vwCl (X ++ [(h0, .inr (1, [.ref k0, .ref p0, .int 0, .int 0, .int 0, .int (-9), .int 0, .int 0, .int 0, .int 0, .int 255, .int 0, .int 0, .int 255])), (k0, .inl (cy 0, 12, .inl (fun _ => 0))), (p0, .inl (cy 0, 12, .inl (fun _ => 0)))]) H := hP
  have hD : va_D A (X ++ [(h0, .inr (1, [.ref k0, .ref p0, .int 0, .int 0, .int 0, .int (-9), .int 0, .int 0, .int 0, .int 0, .int 255, .int 0, .int 0, .int 255])), (k0, .inl (cy 0, 12, .inl (fun _ => 0))), (p0, .inl (cy 0, 12, .inl (fun _ => 0)))]) := hD
  exact rN (w1 := (fun (_ : Unit) => X ++ [(h0, .inr (1, [.ref k0, .ref p0, .int 0, .int 0, .int 0, .int (-9), .int 0, .int 0, .int 0, .int 0, .int 255, .int 0, .int 0, .int 255])), (k0, .inl (cy 0, 12, .inl (fun _ => 0))), (p0, .inl (cy 0, 12, .inl (fun _ => 0)))])) () hx hb hr hP hD hS hlocks dX1_forgetAll_65
set_option maxHeartbeats 4000000 in
set_option maxRecDepth 100000 in
theorem nwParagraph (l : Launch) (D : va_G) (cy : Nat → ClassId) (A : Nat → Prop) (X : va_W) (h0 : Nat) (hD0 : va_D A (X ++ [(h0, .inr (1, [.null, .null, .int 0, .int 0, .int 0, .int 0, .int 0, .int 0, .int 0, .int 0, .int 0, .int 0, .int 0, .int 0]))])) : MN l yX1_init wsX1_init { frames := 1, cells := 2, slots := 24, locals := 20 } D cy A (X ++ [(h0, .inr (1, [.null, .null, .int 0, .int 0, .int 0, .int 0, .int 0, .int 0, .int 0, .int 0, .int 0, .int 0, .int 0, .int 0]))]) [.ref h0] (fun (u : Nat × Nat) => X ++ [(h0, .inr (1, [.ref u.1, .ref u.2, .int 0, .int 0, .int 0, .int (-9), .int 0, .int 0, .int 0, .int 0, .int 255, .int 0, .int 0, .int 255])), (u.1, .inl (cy 0, 12, .inl (fun _ => 0))), (u.2, .inl (cy 0, 12, .inl (fun _ => 0)))]) 2 24 := by
  refine Met.ofW (cc := cX1_init) (maxL := 1) (ret := none) (by decide) rfl ?_
  intro p e s m args below meth c s₁ B hml hv
  obtain ⟨ha, hP, hK, hO, hA⟩ := hv
  have hx := B.exec
  have hb := B.bytes
  have hr := B.returns
  have hts := atoms_spec (ws := wsX1_init) B.pre
  have hown : s.vm.findClass RX1 = some m.cls := findClass_of_methodNamed B.named
  have hlocks := B.notSynchronized
  have hin0 : meth.name = "<init>" := (name_of_methodNamed B.named B.method).1
  have hS : va_S A s.heap s.heap [] := va_S.rf
  obtain ⟨ls, hl, he0⟩ := ent (m := m) ha (n := 1) (Nat.le_of_ble_eq_true rfl)
  refine W.eq he0 ?_
  have hl : lv_has ls 1 [(0, .ref h0)] := hl
  suffices hG : ∀ (H : Heap) (locs : List Loc), va_P D vwCl (X ++ [(h0, .inr (1, [.null, .null, .int 0, .int 0, .int 0, .int 0, .int 0, .int 0, .int 0, .int 0, .int 0, .int 0, .int 0, .int 0]))]) H → va_D A (X ++ [(h0, .inr (1, [.null, .null, .int 0, .int 0, .int 0, .int 0, .int 0, .int 0, .int 0, .int 0, .int 0, .int 0, .int 0, .int 0]))]) → va_S A s.heap H locs → W p l e (headSpec wsX1_init { frames := 1, cells := 2, slots := 24, locals := 20 }).room s m args below meth c H locs 0 0 (MQ below (QcN D A (fun (u : Nat × Nat) => X ++ [(h0, .inr (1, [.ref u.1, .ref u.2, .int 0, .int 0, .int 0, .int (-9), .int 0, .int 0, .int 0, .int 0, .int 255, .int 0, .int 0, .int 255])), (u.1, .inl (cy 0, 12, .inl (fun _ => 0))), (u.2, .inl (cy 0, 12, .inl (fun _ => 0)))])) args s 2 24 A) (F0 m 0 ls []) by exact hG s.heap [] hP hD0 va_S.rf
  clear hP hS
  intro H locs hP hD hS
  refine lv_aload_n hx hb dX1_init_0 rfl (lv_at hl 0 rfl) ?_
  refine W.objInit hx hb hown (hts (Cond.methodLink RX1 3 objectInit) (List.mem_of_getElem? (i := 1) rfl)) (hts (Cond.instanceMethod objectInit) (List.mem_of_getElem? (i := 2) rfl)) (hts (Cond.code objectInit ⟨#[0xb1]⟩ 1 none) (List.mem_of_getElem? (i := 3) rfl)) rfl (by rw [hml]; exact hl.1) rfl dX1_init_1 (Nat.le_of_ble_eq_true rfl) (Nat.le_of_ble_eq_true rfl) ?_
  refine W.eq (g2 := F0 m 4 ls []) rfl ?_
  refine lv_aload_n hx hb dX1_init_4 rfl (lv_at hl 0 rfl) ?_
  refine lv_bipush (v := 12) hx hb dX1_init_5 (by decide) ?_
  refine nwI (N := 12) hx hb (hts (Cond.arrayClass .int) (List.mem_of_getElem? (i := 4) rfl)) hK hP hD hS hA (by decide) (by decide) (by decide) (Nat.le_of_ble_eq_true rfl) (Nat.le_of_ble_eq_true rfl) dX1_init_7 (fun q7 H hP hD hS => ?_)
  have hP : va_P D vwCl (X ++ [(h0, .inr (1, [.null, .null, .int 0, .int 0, .int 0, .int 0, .int 0, .int 0, .int 0, .int 0, .int 0, .int 0, .int 0, .int 0])), (q7, .inl (cy 0, 12, .inl (fun _ => 0)))]) H := hP
  have hD : va_D A (X ++ [(h0, .inr (1, [.null, .null, .int 0, .int 0, .int 0, .int 0, .int 0, .int 0, .int 0, .int 0, .int 0, .int 0, .int 0, .int 0])), (q7, .inl (cy 0, 12, .inl (fun _ => 0)))]) := hD
  refine ptF 0 (C := RX1) (T := TX1) (N := 14) (v := .ref q7) (ty := .array .int) hx hb hts (fun _ h => List.mem_cons_of_mem _ (List.mem_append_right _ h)) tyX1 tyX1_ok nmX1 hown hK hP hD hS rfl rfl 0 (by decide) (hts (Cond.fieldLink RX1 9 "WhoSpeaks$Paragraph" "kinds" "[I") (List.mem_of_getElem? (i := 5) rfl)) (fun _ h9 => h9) rfl hin0 rfl (by decide +kernel) rfl rfl (Nat.le_of_ble_eq_true rfl) dX1_init_9 (fun H locs hP hD hS => ?_)
  have hP : va_P D vwCl (X ++ [(h0, .inr (1, [.ref q7, .null, .int 0, .int 0, .int 0, .int 0, .int 0, .int 0, .int 0, .int 0, .int 0, .int 0, .int 0, .int 0])), (q7, .inl (cy 0, 12, .inl (fun _ => 0)))]) H := hP
  have hD : va_D A (X ++ [(h0, .inr (1, [.ref q7, .null, .int 0, .int 0, .int 0, .int 0, .int 0, .int 0, .int 0, .int 0, .int 0, .int 0, .int 0, .int 0])), (q7, .inl (cy 0, 12, .inl (fun _ => 0)))]) := hD
  refine lv_aload_n hx hb dX1_init_12 rfl (lv_at hl 0 rfl) ?_
  refine lv_bipush (v := 12) hx hb dX1_init_13 (by decide) ?_
  refine nwI (N := 12) hx hb (hts (Cond.arrayClass .int) (List.mem_of_getElem? (i := 4) rfl)) hK hP hD hS hA (by decide) (by decide) (by decide) (Nat.le_of_ble_eq_true rfl) (Nat.le_of_ble_eq_true rfl) dX1_init_15 (fun q15 H hP hD hS => ?_)
  have hP : va_P D vwCl (X ++ [(h0, .inr (1, [.ref q7, .null, .int 0, .int 0, .int 0, .int 0, .int 0, .int 0, .int 0, .int 0, .int 0, .int 0, .int 0, .int 0])), (q7, .inl (cy 0, 12, .inl (fun _ => 0))), (q15, .inl (cy 0, 12, .inl (fun _ => 0)))]) H := hP
  have hD : va_D A (X ++ [(h0, .inr (1, [.ref q7, .null, .int 0, .int 0, .int 0, .int 0, .int 0, .int 0, .int 0, .int 0, .int 0, .int 0, .int 0, .int 0])), (q7, .inl (cy 0, 12, .inl (fun _ => 0))), (q15, .inl (cy 0, 12, .inl (fun _ => 0)))]) := hD
  refine ptF 0 (C := RX1) (T := TX1) (N := 14) (v := .ref q15) (ty := .array .int) hx hb hts (fun _ h => List.mem_cons_of_mem _ (List.mem_append_right _ h)) tyX1 tyX1_ok nmX1 hown hK hP hD hS rfl rfl 1 (by decide) (hts (Cond.fieldLink RX1 15 "WhoSpeaks$Paragraph" "persons" "[I") (List.mem_of_getElem? (i := 6) rfl)) (fun _ h9 => h9) rfl hin0 rfl (by decide +kernel) rfl rfl (Nat.le_of_ble_eq_true rfl) dX1_init_17 (fun H locs hP hD hS => ?_)
  have hP : va_P D vwCl (X ++ [(h0, .inr (1, [.ref q7, .ref q15, .int 0, .int 0, .int 0, .int 0, .int 0, .int 0, .int 0, .int 0, .int 0, .int 0, .int 0, .int 0])), (q7, .inl (cy 0, 12, .inl (fun _ => 0))), (q15, .inl (cy 0, 12, .inl (fun _ => 0)))]) H := hP
  have hD : va_D A (X ++ [(h0, .inr (1, [.ref q7, .ref q15, .int 0, .int 0, .int 0, .int 0, .int 0, .int 0, .int 0, .int 0, .int 0, .int 0, .int 0, .int 0])), (q7, .inl (cy 0, 12, .inl (fun _ => 0))), (q15, .inl (cy 0, 12, .inl (fun _ => 0)))]) := hD
  refine lv_aload_n hx hb dX1_init_20 rfl (lv_at hl 0 rfl) ?_
  refine kNv (As := []) (rest := []) ⟨hx, hb, hml, hown, hts⟩ (nwForget l D cy A X h0 q7 q15 hD) (cwV 0 hts gX1_init_X1_forgetAll rfl rfl rfl (by decide +kernel) ⟨Nat.le_of_ble_eq_true rfl, Nat.le_of_ble_eq_true rfl⟩) hK hO hP hS hA (va_recv hK.1 hP (ci := 1) (q := (RX1, TX1, 14)) rfl (ap_get X _ 0)) rfl hl.1 rfl (Nat.le_of_ble_eq_true rfl) dX1_init_21 ⟨Nat.le_of_ble_eq_true rfl, Nat.le_of_ble_eq_true rfl⟩ (fun _ H locs hP hD hS => ?_)
  exact rN (w1 := (fun (u : Nat × Nat) => X ++ [(h0, .inr (1, [.ref u.1, .ref u.2, .int 0, .int 0, .int 0, .int (-9), .int 0, .int 0, .int 0, .int 0, .int 255, .int 0, .int 0, .int 255])), (u.1, .inl (cy 0, 12, .inl (fun _ => 0))), (u.2, .inl (cy 0, 12, .inl (fun _ => 0)))])) (q7, q15) hx hb hr hP hD hS hlocks dX1_init_24
