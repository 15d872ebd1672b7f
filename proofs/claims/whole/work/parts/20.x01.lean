def fX5_isWithin (p0 : Int32) (p1 : Int32) : Bool := (if p0 < 0 then false else (if p1 ≤ p0 then false else true))
set_option maxHeartbeats 4000000 in
set_option maxRecDepth 100000 in
theorem okX5_isWithin (l : Launch) (D : va_G) (cy : Nat → ClassId) (A : Nat → Prop) (w : va_W) (p0 : Int32) (p1 : Int32) (r : Bool) (hf : fX5_isWithin p0 p1 = r) : MI l yX5_isWithin wsX5_isWithin { frames := 0, cells := 0, slots := 0, locals := 0 } D cy A w [.int p0, .int p1] (bi r) w := by
  refine Met.ofW (cc := cX5_isWithin) (maxL := 2) (ret := (some .boolean)) (by decide) rfl ?_
  intro p e s m args below meth c s₁ B hml hv
  obtain ⟨ha, hP, hK⟩ := hv
  have hx := B.exec
  have hb := B.bytes
  have hr := B.returns
  have hts := atoms_spec (ws := wsX5_isWithin) B.pre
  have hown : s.vm.findClass RX5 = some m.cls := findClass_of_methodNamed B.named
  have hlocks := B.notSynchronized
  have hS : va_S A s.heap s.heap [] := va_S.rf
  obtain ⟨ls, hl, he0⟩ := ent (m := m) ha (n := 2) (Nat.le_of_ble_eq_true rfl)
  refine W.eq he0 ?_
  have hl : lv_has ls 2 [(0, .int p0), (1, .int p1)] := hl
  unfold fX5_isWithin at hf
  suffices hG : ∀ (H : Heap) (locs : List Loc), va_P D vwCl w H → va_S A s.heap H locs → W p l e (headSpec wsX5_isWithin { frames := 0, cells := 0, slots := 0, locals := 0 }).room s m args below meth c H locs 0 0 (MQ below (QcI D A (bi r) w) args s 0 0 A) (F0 m 0 ls []) by exact hG s.heap [] hP va_S.rf
  clear hP hS
  intro H locs hP hS
  refine lv_iload_n hx hb dX5_isWithin_0 rfl (lv_at hl 0 rfl) ?_
  refine lv_if_lt (tgt := 13) hx hb dX5_isWithin_1 (by decide) (fun c3 => ?_) (fun c3 => ?_)
  · have hf := (if_pos c3).symm.trans hf
    refine lv_iconst (v := 0) hx hb dX5_isWithin_13 (by decide) ?_
    have he := hf
    exact rZ hx hb hr (bi_nar false) hP hS (congrArg bi he) hlocks dX5_isWithin_14
  · have hf := (if_neg c3).symm.trans hf
    refine lv_iload_n hx hb dX5_isWithin_4 rfl (lv_at hl 0 rfl) ?_
    refine lv_iload_n hx hb dX5_isWithin_5 rfl (lv_at hl 1 rfl) ?_
    refine lv_icmp_ge (tgt := 13) hx hb dX5_isWithin_6 (by decide) (fun c4 => ?_) (fun c4 => ?_)
    · have hf := (if_pos c4).symm.trans hf
      refine lv_iconst (v := 0) hx hb dX5_isWithin_13 (by decide) ?_
      have he := hf
      exact rZ hx hb hr (bi_nar false) hP hS (congrArg bi he) hlocks dX5_isWithin_14
    · have hf := (if_neg c4).symm.trans hf
      refine lv_iconst (v := 1) hx hb dX5_isWithin_9 (by decide) ?_
      refine lv_goto (tgt := 14) hx hb dX5_isWithin_10 (by decide) ?_
      have he := hf
      exact rZ hx hb hr (bi_nar true) hP hS (congrArg bi he) hlocks dX5_isWithin_14

def fX5_bitOf (p0 : Int32) : Int32 := (if p0 < 0 then 0 else (if 8 ≤ p0 then 0 else ((1 : Int32) <<< (p0 &&& 31))))
set_option maxHeartbeats 4000000 in
set_option maxRecDepth 100000 in
theorem okX5_bitOf (l : Launch) (D : va_G) (cy : Nat → ClassId) (A : Nat → Prop) (w : va_W) (p0 : Int32) (r : Int32) (hf : fX5_bitOf p0 = r) : MI l yX5_bitOf wsX5_bitOf { frames := 0, cells := 0, slots := 0, locals := 0 } D cy A w [.int p0] r w := by
  refine Met.ofW (cc := cX5_bitOf) (maxL := 1) (ret := (some .int)) (by decide) rfl ?_
  intro p e s m args below meth c s₁ B hml hv
  obtain ⟨ha, hP, hK⟩ := hv
  have hx := B.exec
  have hb := B.bytes
  have hr := B.returns
  have hts := atoms_spec (ws := wsX5_bitOf) B.pre
  have hown : s.vm.findClass RX5 = some m.cls := findClass_of_methodNamed B.named
  have hlocks := B.notSynchronized
  have hS : va_S A s.heap s.heap [] := va_S.rf
  obtain ⟨ls, hl, he0⟩ := ent (m := m) ha (n := 1) (Nat.le_of_ble_eq_true rfl)
  refine W.eq he0 ?_
  have hl : lv_has ls 1 [(0, .int p0)] := hl
  unfold fX5_bitOf at hf
  suffices hG : ∀ (H : Heap) (locs : List Loc), va_P D vwCl w H → va_S A s.heap H locs → W p l e (headSpec wsX5_bitOf { frames := 0, cells := 0, slots := 0, locals := 0 }).room s m args below meth c H locs 0 0 (MQ below (QcI D A r w) args s 0 0 A) (F0 m 0 ls []) by exact hG s.heap [] hP va_S.rf
  clear hP hS
  intro H locs hP hS
  refine lv_iload_n hx hb dX5_bitOf_0 rfl (lv_at hl 0 rfl) ?_
  refine lv_if_lt (tgt := 16) hx hb dX5_bitOf_1 (by decide) (fun c3 => ?_) (fun c3 => ?_)
  · have hf := (if_pos c3).symm.trans hf
    refine lv_iconst (v := 0) hx hb dX5_bitOf_16 (by decide) ?_
    have he := hf
    exact rI hx hb hr hP hS he hlocks dX5_bitOf_17
  · have hf := (if_neg c3).symm.trans hf
    refine lv_iload_n hx hb dX5_bitOf_4 rfl (lv_at hl 0 rfl) ?_
    refine lv_bipush (v := 8) hx hb dX5_bitOf_5 (by decide) ?_
    refine lv_icmp_ge (tgt := 16) hx hb dX5_bitOf_7 (by decide) (fun c4 => ?_) (fun c4 => ?_)
    · have hf := (if_pos c4).symm.trans hf
      refine lv_iconst (v := 0) hx hb dX5_bitOf_16 (by decide) ?_
      have he := hf
      exact rI hx hb hr hP hS he hlocks dX5_bitOf_17
    · have hf := (if_neg c4).symm.trans hf
      refine lv_iconst (v := 1) hx hb dX5_bitOf_10 (by decide) ?_
      refine lv_iload_n hx hb dX5_bitOf_11 rfl (lv_at hl 0 rfl) ?_
      refine lv_ishl hx hb dX5_bitOf_12 ?_
      refine lv_goto (tgt := 17) hx hb dX5_bitOf_13 (by decide) ?_
      have he := hf
      exact rI hx hb hr hP hS he hlocks dX5_bitOf_17

def fX2_isThere (p0 : Int32) (S : XS) : Bool := (if ((xi S 2) &&& (fX5_bitOf p0)) = 0 then false else true)
set_option maxHeartbeats 4000000 in
set_option maxRecDepth 100000 in
theorem okX2_isThere (l : Launch) (D : va_G) (cy : Nat → ClassId) (ad : Nat → Nat) (A : Nat → Prop) (hD : ∀ S, va_D A (wX cy ad S)) (p0 : Int32) (S : XS) (r : Bool) (hf : fX2_isThere p0 S = r) : MI l yX2_isThere wsX2_isThere { frames := 1, cells := 0, slots := 0, locals := 20 } D cy A (wX cy ad S) [.ref (ad 1), .int p0] (bi r) (wX cy ad S) := by
  refine Met.ofW (cc := cX2_isThere) (maxL := 2) (ret := (some .boolean)) (by decide) rfl ?_
  intro p e s m args below meth c s₁ B hml hv
  obtain ⟨ha, hP, hK⟩ := hv
  have hx := B.exec
  have hb := B.bytes
  have hr := B.returns
  have hts := atoms_spec (ws := wsX2_isThere) B.pre
  have hown : s.vm.findClass RX2 = some m.cls := findClass_of_methodNamed B.named
  have hlocks := B.notSynchronized
  have hS : va_S A s.heap s.heap [] := va_S.rf
  obtain ⟨ls, hl, he0⟩ := ent (m := m) ha (n := 2) (Nat.le_of_ble_eq_true rfl)
  refine W.eq he0 ?_
  have hl : lv_has ls 2 [(0, .ref (ad 1)), (1, .int p0)] := hl
  unfold fX2_isThere at hf
  suffices hG : ∀ (H : Heap) (locs : List Loc), va_P D vwCl (wX cy ad S) H → va_S A s.heap H locs → W p l e (headSpec wsX2_isThere { frames := 1, cells := 0, slots := 0, locals := 20 }).room s m args below meth c H locs 0 0 (MQ below (QcI D A (bi r) (wX cy ad S)) args s 0 0 A) (F0 m 0 ls []) by exact hG s.heap [] hP va_S.rf
  clear hP hS
  intro H locs hP hS
  refine lv_aload_n hx hb dX2_isThere_0 rfl (lv_at hl 0 rfl) ?_
  refine gfX2_1 hx hb hts (fun _ h => List.mem_cons_of_mem _ (List.mem_append_right _ h)) hown hK hP (hts (Cond.fieldLink RX2 15 "WhoSpeaks$People" "there" "I") (List.mem_of_getElem? (i := 1) rfl)) dX2_isThere_1 ?_
  refine lv_iload_n hx hb dX2_isThere_4 rfl (lv_at hl 1 rfl) ?_
  refine kNi (As := [.int p0]) (rest := [.int (xi S 2)]) ⟨hx, hb, hml, hown, hts⟩ (okX5_bitOf l D cy A (wX cy ad S) p0 _ rfl) ⟨va_cnB 1 hts gX2_isThere_X5_bitOf_n19 rfl rfl rfl hK.2.2.1 (hts (Cond.initialized RX5) (List.mem_of_getElem? (i := 3) rfl)) (by decide +kernel) ⟨Nat.le_of_ble_eq_true rfl, Nat.le_of_ble_eq_true rfl⟩, (hts (Cond.static yX5_bitOf) (List.mem_of_getElem? (i := 2) rfl)), trivial⟩ hK hP hS rfl hl.1 rfl (Nat.le_of_ble_eq_true rfl) dX2_isThere_5 (fun H locs hP hS => ?_)
  refine lv_iand hx hb dX2_isThere_8 ?_
  refine lv_if_eq (tgt := 16) hx hb dX2_isThere_9 (by decide) (fun c3 => ?_) (fun c3 => ?_)
  · have hf := (if_pos c3).symm.trans hf
    refine lv_iconst (v := 0) hx hb dX2_isThere_16 (by decide) ?_
    have he := hf
    exact rZ hx hb hr (bi_nar false) hP hS (congrArg bi he) hlocks dX2_isThere_17
  · have hf := (if_neg c3).symm.trans hf
    refine lv_iconst (v := 1) hx hb dX2_isThere_12 (by decide) ?_
    refine lv_goto (tgt := 17) hx hb dX2_isThere_13 (by decide) ?_
    have he := hf
    exact rZ hx hb hr (bi_nar true) hP hS (congrArg bi he) hlocks dX2_isThere_17

def fX2_sortOf (p0 : Int32) (S : XS) : Option Int32 := (if (bi (fX5_isWithin p0 8)) = 0 then (some (-9)) else (if (bi (fX2_isThere p0 S)) = 0 then (some (-9)) else (ck p0 8 (some (xa S 2 p0.toNatClampNeg)))))
set_option maxHeartbeats 4000000 in
set_option maxRecDepth 100000 in
theorem okX2_sortOf (l : Launch) (D : va_G) (cy : Nat → ClassId) (ad : Nat → Nat) (A : Nat → Prop) (hD : ∀ S, va_D A (wX cy ad S)) (p0 : Int32) (S : XS) (r : Int32) (hf : fX2_sortOf p0 S = some r) : MI l yX2_sortOf wsX2_sortOf { frames := 2, cells := 0, slots := 0, locals := 41 } D cy A (wX cy ad S) [.ref (ad 1), .int p0] r (wX cy ad S) := by
  refine Met.ofW (cc := cX2_sortOf) (maxL := 2) (ret := (some .int)) (by decide) rfl ?_
  intro p e s m args below meth c s₁ B hml hv
  obtain ⟨ha, hP, hK⟩ := hv
  have hx := B.exec
  have hb := B.bytes
  have hr := B.returns
  have hts := atoms_spec (ws := wsX2_sortOf) B.pre
  have hown : s.vm.findClass RX2 = some m.cls := findClass_of_methodNamed B.named
  have hlocks := B.notSynchronized
  have hS : va_S A s.heap s.heap [] := va_S.rf
  obtain ⟨ls, hl, he0⟩ := ent (m := m) ha (n := 2) (Nat.le_of_ble_eq_true rfl)
  refine W.eq he0 ?_
  have hl : lv_has ls 2 [(0, .ref (ad 1)), (1, .int p0)] := hl
  unfold fX2_sortOf at hf
  suffices hG : ∀ (H : Heap) (locs : List Loc), va_P D vwCl (wX cy ad S) H → va_S A s.heap H locs → W p l e (headSpec wsX2_sortOf { frames := 2, cells := 0, slots := 0, locals := 41 }).room s m args below meth c H locs 0 0 (MQ below (QcI D A r (wX cy ad S)) args s 0 0 A) (F0 m 0 ls []) by exact hG s.heap [] hP va_S.rf
  clear hP hS
  intro H locs hP hS
  refine lv_iload_n hx hb dX2_sortOf_0 rfl (lv_at hl 1 rfl) ?_
  refine lv_aload_n hx hb dX2_sortOf_1 rfl (lv_at hl 0 rfl) ?_
  refine gfX2_0 hx hb hts (fun _ h => List.mem_cons_of_mem _ (List.mem_append_right _ h)) hown hK hP (hts (Cond.fieldLink RX2 9 "WhoSpeaks$People" "sorts" "[I") (List.mem_of_getElem? (i := 1) rfl)) dX2_sortOf_2 ?_
  refine anX2 hx hb hK hP dX2_sortOf_5 ?_
  refine kNi (As := [.int p0, .int 8]) (rest := []) ⟨hx, hb, hml, hown, hts⟩ (okX5_isWithin l D cy A (wX cy ad S) p0 8 _ rfl) ⟨va_cnB 2 hts gX2_sortOf_X5_isWithin_n23 rfl rfl rfl hK.2.1 (hts (Cond.initialized RX5) (List.mem_of_getElem? (i := 3) rfl)) (by decide +kernel) ⟨Nat.le_of_ble_eq_true rfl, Nat.le_of_ble_eq_true rfl⟩, (hts (Cond.static yX5_isWithin) (List.mem_of_getElem? (i := 2) rfl)), trivial⟩ hK hP hS rfl hl.1 rfl (Nat.le_of_ble_eq_true rfl) dX2_sortOf_6 (fun H locs hP hS => ?_)
  refine lv_if_eq (tgt := 29) hx hb dX2_sortOf_9 (by decide) (fun c5 => ?_) (fun c5 => ?_)
  · have hf := (if_pos c5).symm.trans hf
    refine lv_bipush (v := (-9)) hx hb dX2_sortOf_29 (by decide) ?_
    have he := Option.some.inj hf
    exact rI hx hb hr hP hS he hlocks dX2_sortOf_31
  · have hf := (if_neg c5).symm.trans hf
    refine lv_aload_n hx hb dX2_sortOf_12 rfl (lv_at hl 0 rfl) ?_
    refine lv_iload_n hx hb dX2_sortOf_13 rfl (lv_at hl 1 rfl) ?_
    refine kVi (As := [.int p0]) (rest := []) ⟨hx, hb, hml, hown, hts⟩ (okX2_isThere l D cy ad A hD p0 S _ rfl) (cwV 1 hts gX2_sortOf_X2_isThere rfl rfl rfl (by decide +kernel) ⟨Nat.le_of_ble_eq_true rfl, Nat.le_of_ble_eq_true rfl⟩) hK hP hS (va_recv hK.1 hP (ci := 2) (q := (RX2, TX2, 2)) rfl (atX1 cy ad S)) rfl hl.1 rfl (Nat.le_of_ble_eq_true rfl) dX2_sortOf_14 (fun H locs hP hS => ?_)
    refine lv_if_eq (tgt := 29) hx hb dX2_sortOf_17 (by decide) (fun c7 => ?_) (fun c7 => ?_)
    · have hf := (if_pos c7).symm.trans hf
      refine lv_bipush (v := (-9)) hx hb dX2_sortOf_29 (by decide) ?_
      have he := Option.some.inj hf
      exact rI hx hb hr hP hS he hlocks dX2_sortOf_31
    · have hf := (if_neg c7).symm.trans hf
      refine lv_aload_n hx hb dX2_sortOf_20 rfl (lv_at hl 0 rfl) ?_
      refine gfX2_0 hx hb hts (fun _ h => List.mem_cons_of_mem _ (List.mem_append_right _ h)) hown hK hP (hts (Cond.fieldLink RX2 9 "WhoSpeaks$People" "sorts" "[I") (List.mem_of_getElem? (i := 1) rfl)) dX2_sortOf_21 ?_
      refine lv_iload_n hx hb dX2_sortOf_24 rfl (lv_at hl 1 rfl) ?_
      obtain ⟨c8, hf⟩ := ck_some hf
      refine alX2 hx hb hK hP c8 dX2_sortOf_25 ?_
      refine lv_goto (tgt := 31) hx hb dX2_sortOf_26 (by decide) ?_
      have he := Option.some.inj hf
      exact rI hx hb hr hP hS he hlocks dX2_sortOf_31

def fX2_bring (p0 : Int32) (p1 : Int32) (S : XS) : Option XS := (if (bi (fX5_isWithin p0 8)) = 0 then (some S) else (ck p0 8 (bnd (xaW S 2 p0.toNatClampNeg p1) (fun S7 => (bnd (xiW S7 2 ((xi S7 2) ||| (fX5_bitOf p0))) (fun S10 => (some S10)))))))
set_option maxHeartbeats 4000000 in
set_option maxRecDepth 100000 in
theorem okX2_bring (l : Launch) (D : va_G) (cy : Nat → ClassId) (ad : Nat → Nat) (A : Nat → Prop) (hD : ∀ S, va_D A (wX cy ad S)) (p0 : Int32) (p1 : Int32) (S : XS) (S' : XS) (hf : fX2_bring p0 p1 S = some S') : MV l yX2_bring wsX2_bring { frames := 1, cells := 0, slots := 0, locals := 21 } D cy A (wX cy ad S) [.ref (ad 1), .int p0, .int p1] (wX cy ad S') := by
  refine Met.ofW (cc := cX2_bring) (maxL := 3) (ret := none) (by decide) rfl ?_
  intro p e s m args below meth c s₁ B hml hv
  obtain ⟨ha, hP, hK⟩ := hv
  have hx := B.exec
  have hb := B.bytes
  have hr := B.returns
  have hts := atoms_spec (ws := wsX2_bring) B.pre
  have hown : s.vm.findClass RX2 = some m.cls := findClass_of_methodNamed B.named
  have hlocks := B.notSynchronized
  have hS : va_S A s.heap s.heap [] := va_S.rf
  obtain ⟨ls, hl, he0⟩ := ent (m := m) ha (n := 3) (Nat.le_of_ble_eq_true rfl)
  refine W.eq he0 ?_
  have hl : lv_has ls 3 [(0, .ref (ad 1)), (1, .int p0), (2, .int p1)] := hl
  unfold fX2_bring at hf
  suffices hG : ∀ (H : Heap) (locs : List Loc), va_P D vwCl (wX cy ad S) H → va_S A s.heap H locs → W p l e (headSpec wsX2_bring { frames := 1, cells := 0, slots := 0, locals := 21 }).room s m args below meth c H locs 0 0 (MQ below (QcV D A (wX cy ad S')) args s 0 0 A) (F0 m 0 ls []) by exact hG s.heap [] hP va_S.rf
  clear hP hS
  intro H locs hP hS
  refine lv_iload_n hx hb dX2_bring_0 rfl (lv_at hl 1 rfl) ?_
  refine lv_aload_n hx hb dX2_bring_1 rfl (lv_at hl 0 rfl) ?_
  refine gfX2_0 hx hb hts (fun _ h => List.mem_cons_of_mem _ (List.mem_append_right _ h)) hown hK hP (hts (Cond.fieldLink RX2 9 "WhoSpeaks$People" "sorts" "[I") (List.mem_of_getElem? (i := 1) rfl)) dX2_bring_2 ?_
  refine anX2 hx hb hK hP dX2_bring_5 ?_
  refine kNi (As := [.int p0, .int 8]) (rest := []) ⟨hx, hb, hml, hown, hts⟩ (okX5_isWithin l D cy A (wX cy ad S) p0 8 _ rfl) ⟨va_cnB 2 hts gX2_bring_X5_isWithin_n23 rfl rfl rfl hK.2.1 (hts (Cond.initialized RX5) (List.mem_of_getElem? (i := 4) rfl)) (by decide +kernel) ⟨Nat.le_of_ble_eq_true rfl, Nat.le_of_ble_eq_true rfl⟩, (hts (Cond.static yX5_isWithin) (List.mem_of_getElem? (i := 3) rfl)), trivial⟩ hK hP hS rfl hl.1 rfl (Nat.le_of_ble_eq_true rfl) dX2_bring_6 (fun H locs hP hS => ?_)
  refine lv_if_eq (tgt := 32) hx hb dX2_bring_9 (by decide) (fun c6 => ?_) (fun c6 => ?_)
  · have hf := (if_pos c6).symm.trans hf
    cases hf
    exact rV hx hb hr hP hS hlocks dX2_bring_32
  · have hf := (if_neg c6).symm.trans hf
    refine lv_aload_n hx hb dX2_bring_12 rfl (lv_at hl 0 rfl) ?_
    refine gfX2_0 hx hb hts (fun _ h => List.mem_cons_of_mem _ (List.mem_append_right _ h)) hown hK hP (hts (Cond.fieldLink RX2 9 "WhoSpeaks$People" "sorts" "[I") (List.mem_of_getElem? (i := 1) rfl)) dX2_bring_13 ?_
    refine lv_iload_n hx hb dX2_bring_16 rfl (lv_at hl 1 rfl) ?_
    refine lv_iload_n hx hb dX2_bring_17 rfl (lv_at hl 2 rfl) ?_
    obtain ⟨c8, hf⟩ := ck_some hf
    refine asX2 (v := p1) hx hb hK hP hD hS c8 dX2_bring_18 (fun S7 eS7 H locs hP hS => ?_)
    have hf := bnd_of eS7 hf
    refine lv_aload_n hx hb dX2_bring_19 rfl (lv_at hl 0 rfl) ?_
    refine lv_dup hx hb dX2_bring_20 rfl ?_
    refine gfX2_1 hx hb hts (fun _ h => List.mem_cons_of_mem _ (List.mem_append_right _ h)) hown hK hP (hts (Cond.fieldLink RX2 15 "WhoSpeaks$People" "there" "I") (List.mem_of_getElem? (i := 2) rfl)) dX2_bring_21 ?_
    refine lv_iload_n hx hb dX2_bring_24 rfl (lv_at hl 1 rfl) ?_
    refine kNi (As := [.int p0]) (rest := [.int (xi S7 2), .ref (ad 1)]) ⟨hx, hb, hml, hown, hts⟩ (okX5_bitOf l D cy A (wX cy ad S7) p0 _ rfl) ⟨va_cnB 1 hts gX2_bring_X5_bitOf_n19 rfl rfl rfl hK.2.2.1 (hts (Cond.initialized RX5) (List.mem_of_getElem? (i := 4) rfl)) (by decide +kernel) ⟨Nat.le_of_ble_eq_true rfl, Nat.le_of_ble_eq_true rfl⟩, (hts (Cond.static yX5_bitOf) (List.mem_of_getElem? (i := 6) rfl)), trivial⟩ hK hP hS rfl hl.1 rfl (Nat.le_of_ble_eq_true rfl) dX2_bring_25 (fun H locs hP hS => ?_)
    refine lv_ior hx hb dX2_bring_28 ?_
    refine pfX2_1 (v := ((xi S7 2) ||| (fX5_bitOf p0))) hx hb hts (fun _ h => List.mem_cons_of_mem _ (List.mem_append_right _ h)) hown hK hP hD hS (hts (Cond.fieldLink RX2 15 "WhoSpeaks$People" "there" "I") (List.mem_of_getElem? (i := 2) rfl)) dX2_bring_29 (fun S10 eS10 H locs hP hS => ?_)
    have hf := bnd_of eS10 hf
    cases hf
    exact rV hx hb hr hP hS hlocks dX2_bring_32

def fX5_person (p0 : Int32) (p1 : Int32) (S : XS) : Option (Int32 × XS) := (if (bi (fX5_isWithin p0 8)) = 0 then (some ((-1), S)) else (if p1 < 0 then (some ((-2), S)) else (if p1 ≤ 2 then (ob1 (fX2_sortOf p0 S) (fun r8 => (ob1 (fX2_bring p0 p1 S) (fun S11 => (some (r8, S11)))))) else (some ((-2), S)))))
set_option maxHeartbeats 4000000 in
set_option maxRecDepth 100000 in
theorem okX5_person (l : Launch) (D : va_G) (cy : Nat → ClassId) (ad : Nat → Nat) (A : Nat → Prop) (hD : ∀ S, va_D A (wX cy ad S)) (p0 : Int32) (p1 : Int32) (S : XS) (r : Int32) (S' : XS) (hf : fX5_person p0 p1 S = some (r, S')) : MI l yX5_person wsX5_person { frames := 3, cells := 0, slots := 0, locals := 62 } D cy A (wX cy ad S) [.ref (ad 0), .int p0, .int p1] r (wX cy ad S') := by
  refine Met.ofW (cc := cX5_person) (maxL := 4) (ret := (some .int)) (by decide) rfl ?_
  intro p e s m args below meth c s₁ B hml hv
  obtain ⟨ha, hP, hK⟩ := hv
  have hx := B.exec
  have hb := B.bytes
  have hr := B.returns
  have hts := atoms_spec (ws := wsX5_person) B.pre
  have hown : s.vm.findClass RX5 = some m.cls := findClass_of_methodNamed B.named
  have hlocks := B.notSynchronized
  have hS : va_S A s.heap s.heap [] := va_S.rf
  obtain ⟨ls, hl, he0⟩ := ent (m := m) ha (n := 4) (Nat.le_of_ble_eq_true rfl)
  refine W.eq he0 ?_
  have hl : lv_has ls 4 [(0, .ref (ad 0)), (1, .int p0), (2, .int p1)] := hl
  unfold fX5_person at hf
  suffices hG : ∀ (H : Heap) (locs : List Loc), va_P D vwCl (wX cy ad S) H → va_S A s.heap H locs → W p l e (headSpec wsX5_person { frames := 3, cells := 0, slots := 0, locals := 62 }).room s m args below meth c H locs 0 0 (MQ below (QcI D A r (wX cy ad S')) args s 0 0 A) (F0 m 0 ls []) by exact hG s.heap [] hP va_S.rf
  clear hP hS
  intro H locs hP hS
  refine lv_iload_n hx hb dX5_person_0 rfl (lv_at hl 1 rfl) ?_
  refine lv_bipush (v := 8) hx hb dX5_person_1 (by decide) ?_
  refine kSi (As := [.int p0, .int 8]) (rest := []) ⟨hx, hb, hml, hown, hts⟩ (okX5_isWithin l D cy A (wX cy ad S) p0 8 _ rfl) (va_cwS 2 hts gX5_person_X5_isWithin rfl rfl rfl (by decide +kernel) ⟨Nat.le_of_ble_eq_true rfl, Nat.le_of_ble_eq_true rfl⟩) hK hP hS rfl hl.1 rfl (Nat.le_of_ble_eq_true rfl) dX5_person_3 (fun H locs hP hS => ?_)
  refine lv_if_ne (tgt := 11) hx hb dX5_person_6 (by decide) (fun c5 => ?_) (fun c5 => ?_)
  · have hf := (if_neg c5).symm.trans hf
    refine lv_iload_n hx hb dX5_person_11 rfl (lv_at hl 2 rfl) ?_
    refine lv_if_lt (tgt := 20) hx hb dX5_person_12 (by decide) (fun c6 => ?_) (fun c6 => ?_)
    · have hf := (if_pos c6).symm.trans hf
      refine lv_bipush (v := (-2)) hx hb dX5_person_20 (by decide) ?_
      obtain ⟨he, hS9⟩ := Prod.mk.inj (Option.some.inj hf)
      subst hS9
      exact rI hx hb hr hP hS he hlocks dX5_person_22
    · have hf := (if_neg c6).symm.trans hf
      refine lv_iload_n hx hb dX5_person_15 rfl (lv_at hl 2 rfl) ?_
      refine lv_iconst (v := 2) hx hb dX5_person_16 (by decide) ?_
      refine lv_icmp_le (tgt := 23) hx hb dX5_person_17 (by decide) (fun c7 => ?_) (fun c7 => ?_)
      · have hf := (if_pos c7).symm.trans hf
        refine lv_aload_n hx hb dX5_person_23 rfl (lv_at hl 0 rfl) ?_
        refine gfX5_0 hx hb hts (fun _ h => List.mem_cons_of_mem _ (List.mem_append_left _ (List.mem_append_right _ h))) hown hK hP (hts (Cond.fieldLink RX5 12 "WhoSpeaks" "people" "LWhoSpeaks$People;") (List.mem_of_getElem? (i := 1) rfl)) dX5_person_24 ?_
        refine lv_iload_n hx hb dX5_person_27 rfl (lv_at hl 1 rfl) ?_
        obtain ⟨r8, h9, hf⟩ := ob1_some hf
        refine kVi (As := [.int p0]) (rest := []) ⟨hx, hb, hml, hown, hts⟩ (okX2_sortOf l D cy ad A hD p0 S r8 h9) (cwV 1 hts gX5_person_X2_sortOf rfl rfl rfl (by decide +kernel) ⟨Nat.le_of_ble_eq_true rfl, Nat.le_of_ble_eq_true rfl⟩) hK hP hS (va_recv hK.1 hP (ci := 2) (q := (RX2, TX2, 2)) rfl (atX1 cy ad S)) rfl hl.1 rfl (Nat.le_of_ble_eq_true rfl) dX5_person_28 (fun H locs hP hS => ?_)
        refine lv_istore_n (lv' := [(3, .int r8), (0, .ref (ad 0)), (1, .int p0), (2, .int p1)]) hx hb dX5_person_31 rfl hl (by decide) rfl (fun ls hl => ?_)
        refine lv_aload_n hx hb dX5_person_32 rfl (lv_at hl 1 rfl) ?_
        refine gfX5_0 hx hb hts (fun _ h => List.mem_cons_of_mem _ (List.mem_append_left _ (List.mem_append_right _ h))) hown hK hP (hts (Cond.fieldLink RX5 12 "WhoSpeaks" "people" "LWhoSpeaks$People;") (List.mem_of_getElem? (i := 1) rfl)) dX5_person_33 ?_
        refine lv_iload_n hx hb dX5_person_36 rfl (lv_at hl 2 rfl) ?_
        refine lv_iload_n hx hb dX5_person_37 rfl (lv_at hl 3 rfl) ?_
        obtain ⟨S11, h10, hf⟩ := ob1_some hf
        refine kVv (As := [.int p0, .int p1]) (rest := []) ⟨hx, hb, hml, hown, hts⟩ (okX2_bring l D cy ad A hD p0 p1 S S11 h10) (cwV 2 hts gX5_person_X2_bring rfl rfl rfl (by decide +kernel) ⟨Nat.le_of_ble_eq_true rfl, Nat.le_of_ble_eq_true rfl⟩) hK hP hS (va_recv hK.1 hP (ci := 2) (q := (RX2, TX2, 2)) rfl (atX1 cy ad S)) rfl hl.1 rfl (Nat.le_of_ble_eq_true rfl) dX5_person_38 (fun H locs hP hS => ?_)
        refine lv_iload_n hx hb dX5_person_41 rfl (lv_at hl 0 rfl) ?_
        obtain ⟨he, hS9⟩ := Prod.mk.inj (Option.some.inj hf)
        subst hS9
        exact rI hx hb hr hP hS he hlocks dX5_person_42
      · have hf := (if_neg c7).symm.trans hf
        refine lv_bipush (v := (-2)) hx hb dX5_person_20 (by decide) ?_
        obtain ⟨he, hS9⟩ := Prod.mk.inj (Option.some.inj hf)
        subst hS9
        exact rI hx hb hr hP hS he hlocks dX5_person_22
  · have hf := (if_pos c5).symm.trans hf
    refine lv_iconst (v := (-1)) hx hb dX5_person_9 (by decide) ?_
    obtain ⟨he, hS9⟩ := Prod.mk.inj (Option.some.inj hf)
    subst hS9
    exact rI hx hb hr hP hS he hlocks dX5_person_10

def fX3_holds (p0 : Int32) (S : XS) : Bool := (if p0 < 0 then false else (if (xi S 4) ≤ p0 then false else true))
set_option maxHeartbeats 4000000 in
set_option maxRecDepth 100000 in
theorem okX3_holds (l : Launch) (D : va_G) (cy : Nat → ClassId) (ad : Nat → Nat) (A : Nat → Prop) (hD : ∀ S, va_D A (wX cy ad S)) (p0 : Int32) (S : XS) (r : Bool) (hf : fX3_holds p0 S = r) : MI l yX3_holds wsX3_holds { frames := 0, cells := 0, slots := 0, locals := 0 } D cy A (wX cy ad S) [.ref (ad 5), .int p0] (bi r) (wX cy ad S) := by
  refine Met.ofW (cc := cX3_holds) (maxL := 2) (ret := (some .boolean)) (by decide) rfl ?_
  intro p e s m args below meth c s₁ B hml hv
  obtain ⟨ha, hP, hK⟩ := hv
  have hx := B.exec
  have hb := B.bytes
  have hr := B.returns
  have hts := atoms_spec (ws := wsX3_holds) B.pre
  have hown : s.vm.findClass RX3 = some m.cls := findClass_of_methodNamed B.named
  have hlocks := B.notSynchronized
  have hS : va_S A s.heap s.heap [] := va_S.rf
  obtain ⟨ls, hl, he0⟩ := ent (m := m) ha (n := 2) (Nat.le_of_ble_eq_true rfl)
  refine W.eq he0 ?_
  have hl : lv_has ls 2 [(0, .ref (ad 5)), (1, .int p0)] := hl
  unfold fX3_holds at hf
  suffices hG : ∀ (H : Heap) (locs : List Loc), va_P D vwCl (wX cy ad S) H → va_S A s.heap H locs → W p l e (headSpec wsX3_holds { frames := 0, cells := 0, slots := 0, locals := 0 }).room s m args below meth c H locs 0 0 (MQ below (QcI D A (bi r) (wX cy ad S)) args s 0 0 A) (F0 m 0 ls []) by exact hG s.heap [] hP va_S.rf
  clear hP hS
  intro H locs hP hS
  refine lv_iload_n hx hb dX3_holds_0 rfl (lv_at hl 1 rfl) ?_
  refine lv_if_lt (tgt := 16) hx hb dX3_holds_1 (by decide) (fun c3 => ?_) (fun c3 => ?_)
  · have hf := (if_pos c3).symm.trans hf
    refine lv_iconst (v := 0) hx hb dX3_holds_16 (by decide) ?_
    have he := hf
    exact rZ hx hb hr (bi_nar false) hP hS (congrArg bi he) hlocks dX3_holds_17
  · have hf := (if_neg c3).symm.trans hf
    refine lv_iload_n hx hb dX3_holds_4 rfl (lv_at hl 1 rfl) ?_
    refine lv_aload_n hx hb dX3_holds_5 rfl (lv_at hl 0 rfl) ?_
    refine gfX3_2 hx hb hts (fun _ h => List.mem_cons_of_mem _ (List.mem_append_right _ h)) hown hK hP (hts (Cond.fieldLink RX3 22 "WhoSpeaks$Story" "count" "I") (List.mem_of_getElem? (i := 1) rfl)) dX3_holds_6 ?_
    refine lv_icmp_ge (tgt := 16) hx hb dX3_holds_9 (by decide) (fun c4 => ?_) (fun c4 => ?_)
    · have hf := (if_pos c4).symm.trans hf
      refine lv_iconst (v := 0) hx hb dX3_holds_16 (by decide) ?_
      have he := hf
      exact rZ hx hb hr (bi_nar false) hP hS (congrArg bi he) hlocks dX3_holds_17
    · have hf := (if_neg c4).symm.trans hf
      refine lv_iconst (v := 1) hx hb dX3_holds_12 (by decide) ?_
      refine lv_goto (tgt := 17) hx hb dX3_holds_13 (by decide) ?_
      have he := hf
      exact rZ hx hb hr (bi_nar true) hP hS (congrArg bi he) hlocks dX3_holds_17

def fX3_paragraphAt (p0 : Int32) (S : XS) : Option Nat := (if (bi (fX3_holds p0 S)) = 0 then (some 16) else (if 16 ≤ p0 then (some 16) else (ck p0 16 (some p0.toNatClampNeg))))
set_option maxHeartbeats 4000000 in
set_option maxRecDepth 100000 in
theorem okX3_paragraphAt (l : Launch) (D : va_G) (cy : Nat → ClassId) (ad : Nat → Nat) (A : Nat → Prop) (hD : ∀ S, va_D A (wX cy ad S)) (p0 : Int32) (S : XS) (r : Nat) (hf : fX3_paragraphAt p0 S = some r) : MR l yX3_paragraphAt wsX3_paragraphAt { frames := 1, cells := 0, slots := 0, locals := 21 } D cy A (wX cy ad S) [.ref (ad 5), .int p0] (ad (19 + 3 * r)) (wX cy ad S) := by
  refine Met.ofW (cc := cX3_paragraphAt) (maxL := 2) (ret := (some (.object "WhoSpeaks$Paragraph"))) (by decide) rfl ?_
  intro p e s m args below meth c s₁ B hml hv
  obtain ⟨ha, hP, hK⟩ := hv
  have hx := B.exec
  have hb := B.bytes
  have hr := B.returns
  have hts := atoms_spec (ws := wsX3_paragraphAt) B.pre
  have hown : s.vm.findClass RX3 = some m.cls := findClass_of_methodNamed B.named
  have hlocks := B.notSynchronized
  have hS : va_S A s.heap s.heap [] := va_S.rf
  obtain ⟨ls, hl, he0⟩ := ent (m := m) ha (n := 2) (Nat.le_of_ble_eq_true rfl)
  refine W.eq he0 ?_
  have hl : lv_has ls 2 [(0, .ref (ad 5)), (1, .int p0)] := hl
  unfold fX3_paragraphAt at hf
  suffices hG : ∀ (H : Heap) (locs : List Loc), va_P D vwCl (wX cy ad S) H → va_S A s.heap H locs → W p l e (headSpec wsX3_paragraphAt { frames := 1, cells := 0, slots := 0, locals := 21 }).room s m args below meth c H locs 0 0 (MQ below (QcR D A (ad (19 + 3 * r)) (wX cy ad S)) args s 0 0 A) (F0 m 0 ls []) by exact hG s.heap [] hP va_S.rf
  clear hP hS
  intro H locs hP hS
  refine lv_aload_n hx hb dX3_paragraphAt_0 rfl (lv_at hl 0 rfl) ?_
  refine lv_iload_n hx hb dX3_paragraphAt_1 rfl (lv_at hl 1 rfl) ?_
  refine kVi (As := [.int p0]) (rest := []) ⟨hx, hb, hml, hown, hts⟩ (okX3_holds l D cy ad A hD p0 S _ rfl) (cwV 1 hts gX3_paragraphAt_X3_holds rfl rfl rfl (by decide +kernel) ⟨Nat.le_of_ble_eq_true rfl, Nat.le_of_ble_eq_true rfl⟩) hK hP hS (va_recv hK.1 hP (ci := 3) (q := (RX3, TX3, 3)) rfl (atX5 cy ad S)) rfl hl.1 rfl (Nat.le_of_ble_eq_true rfl) dX3_paragraphAt_2 (fun H locs hP hS => ?_)
  refine lv_if_eq (tgt := 26) hx hb dX3_paragraphAt_5 (by decide) (fun c5 => ?_) (fun c5 => ?_)
  · have hf := (if_pos c5).symm.trans hf
    refine lv_aload_n hx hb dX3_paragraphAt_26 rfl (lv_at hl 0 rfl) ?_
    refine gfX3_1 hx hb hts (fun _ h => List.mem_cons_of_mem _ (List.mem_append_right _ h)) hown hK hP (hts (Cond.fieldLink RX3 18 "WhoSpeaks$Story" "blank" "LWhoSpeaks$Paragraph;") (List.mem_of_getElem? (i := 2) rfl)) dX3_paragraphAt_27 ?_
    have he := Option.some.inj hf
    exact rR hx hb hr hP hS (congrArg (fun j => ad (19 + 3 * j)) he) hlocks dX3_paragraphAt_30
  · have hf := (if_neg c5).symm.trans hf
    refine lv_iload_n hx hb dX3_paragraphAt_8 rfl (lv_at hl 1 rfl) ?_
    refine lv_aload_n hx hb dX3_paragraphAt_9 rfl (lv_at hl 0 rfl) ?_
    refine gfX3_0 hx hb hts (fun _ h => List.mem_cons_of_mem _ (List.mem_append_right _ h)) hown hK hP (hts (Cond.fieldLink RX3 11 "WhoSpeaks$Story" "paragraphs" "[LWhoSpeaks$Paragraph;") (List.mem_of_getElem? (i := 1) rfl)) dX3_paragraphAt_10 ?_
    refine anX6 hx hb hK hP dX3_paragraphAt_13 ?_
    refine lv_icmp_ge (tgt := 26) hx hb dX3_paragraphAt_14 (by decide) (fun c6 => ?_) (fun c6 => ?_)
    · have hf := (if_pos c6).symm.trans hf
      refine lv_aload_n hx hb dX3_paragraphAt_26 rfl (lv_at hl 0 rfl) ?_
      refine gfX3_1 hx hb hts (fun _ h => List.mem_cons_of_mem _ (List.mem_append_right _ h)) hown hK hP (hts (Cond.fieldLink RX3 18 "WhoSpeaks$Story" "blank" "LWhoSpeaks$Paragraph;") (List.mem_of_getElem? (i := 2) rfl)) dX3_paragraphAt_27 ?_
      have he := Option.some.inj hf
      exact rR hx hb hr hP hS (congrArg (fun j => ad (19 + 3 * j)) he) hlocks dX3_paragraphAt_30
    · have hf := (if_neg c6).symm.trans hf
      refine lv_aload_n hx hb dX3_paragraphAt_17 rfl (lv_at hl 0 rfl) ?_
      refine gfX3_0 hx hb hts (fun _ h => List.mem_cons_of_mem _ (List.mem_append_right _ h)) hown hK hP (hts (Cond.fieldLink RX3 11 "WhoSpeaks$Story" "paragraphs" "[LWhoSpeaks$Paragraph;") (List.mem_of_getElem? (i := 1) rfl)) dX3_paragraphAt_18 ?_
      refine lv_iload_n hx hb dX3_paragraphAt_21 rfl (lv_at hl 1 rfl) ?_
      obtain ⟨c7, hf⟩ := ck_some hf
      refine alX6 hx hb hK hP c7 dX3_paragraphAt_22 ?_
      refine lv_goto (tgt := 30) hx hb dX3_paragraphAt_23 (by decide) ?_
      have he := Option.some.inj hf
      exact rR hx hb hr hP hS (congrArg (fun j => ad (19 + 3 * j)) he) hlocks dX3_paragraphAt_30

def fX1_mentions (i : Nat) (p0 : Int32) (S : XS) : Option Bool := (if i < 17 then (if ((xp S i 7) &&& (fX5_bitOf p0)) = 0 then (some false) else (some true)) else none)
set_option maxHeartbeats 4000000 in
set_option maxRecDepth 100000 in
theorem okX1_mentions (l : Launch) (D : va_G) (cy : Nat → ClassId) (ad : Nat → Nat) (A : Nat → Prop) (hD : ∀ S, va_D A (wX cy ad S)) (i : Nat) (p0 : Int32) (S : XS) (r : Bool) (hf : fX1_mentions i p0 S = some r) : MI l yX1_mentions wsX1_mentions { frames := 1, cells := 0, slots := 0, locals := 20 } D cy A (wX cy ad S) [.ref (ad (19 + 3 * i)), .int p0] (bi r) (wX cy ad S) := by
  refine Met.ofW (cc := cX1_mentions) (maxL := 2) (ret := (some .boolean)) (by decide) rfl ?_
  intro p e s m args below meth c s₁ B hml hv
  obtain ⟨ha, hP, hK⟩ := hv
  have hx := B.exec
  have hb := B.bytes
  have hr := B.returns
  have hts := atoms_spec (ws := wsX1_mentions) B.pre
  have hown : s.vm.findClass RX1 = some m.cls := findClass_of_methodNamed B.named
  have hlocks := B.notSynchronized
  have hS : va_S A s.heap s.heap [] := va_S.rf
  obtain ⟨ls, hl, he0⟩ := ent (m := m) ha (n := 2) (Nat.le_of_ble_eq_true rfl)
  refine W.eq he0 ?_
  unfold fX1_mentions at hf
  obtain ⟨hi, hf⟩ := ck_no hf
  have hl : lv_has ls 2 [(0, .ref (ad (19 + 3 * i))), (1, .int p0)] := hl
  skip
  suffices hG : ∀ (H : Heap) (locs : List Loc), va_P D vwCl (wX cy ad S) H → va_S A s.heap H locs → W p l e (headSpec wsX1_mentions { frames := 1, cells := 0, slots := 0, locals := 20 }).room s m args below meth c H locs 0 0 (MQ below (QcI D A (bi r) (wX cy ad S)) args s 0 0 A) (F0 m 0 ls []) by exact hG s.heap [] hP va_S.rf
  clear hP hS
  intro H locs hP hS
  refine lv_aload_n hx hb dX1_mentions_0 rfl (lv_at hl 0 rfl) ?_
  refine gfX1_7 hi hx hb hts (fun _ h => List.mem_cons_of_mem _ (List.mem_append_right _ h)) hown hK hP (hts (Cond.fieldLink RX1 38 "WhoSpeaks$Paragraph" "mentioned" "I") (List.mem_of_getElem? (i := 1) rfl)) dX1_mentions_1 ?_
  refine lv_iload_n hx hb dX1_mentions_4 rfl (lv_at hl 1 rfl) ?_
  refine kNi (As := [.int p0]) (rest := [.int (xp S i 7)]) ⟨hx, hb, hml, hown, hts⟩ (okX5_bitOf l D cy A (wX cy ad S) p0 _ rfl) ⟨va_cnB 1 hts gX1_mentions_X5_bitOf_n86 rfl rfl rfl hK.2.2.2.1 (hts (Cond.initialized RX5) (List.mem_of_getElem? (i := 3) rfl)) (by decide +kernel) ⟨Nat.le_of_ble_eq_true rfl, Nat.le_of_ble_eq_true rfl⟩, (hts (Cond.static yX5_bitOf) (List.mem_of_getElem? (i := 2) rfl)), trivial⟩ hK hP hS rfl hl.1 rfl (Nat.le_of_ble_eq_true rfl) dX1_mentions_5 (fun H locs hP hS => ?_)
  refine lv_iand hx hb dX1_mentions_8 ?_
  refine lv_if_eq (tgt := 16) hx hb dX1_mentions_9 (by decide) (fun c3 => ?_) (fun c3 => ?_)
  · have hf := (if_pos c3).symm.trans hf
    refine lv_iconst (v := 0) hx hb dX1_mentions_16 (by decide) ?_
    have he := Option.some.inj hf
    exact rZ hx hb hr (bi_nar false) hP hS (congrArg bi he) hlocks dX1_mentions_17
  · have hf := (if_neg c3).symm.trans hf
    refine lv_iconst (v := 1) hx hb dX1_mentions_12 (by decide) ?_
    refine lv_goto (tgt := 17) hx hb dX1_mentions_13 (by decide) ?_
    have he := Option.some.inj hf
    exact rZ hx hb hr (bi_nar true) hP hS (congrArg bi he) hlocks dX1_mentions_17

def bX3_namesAnywhere_2  (k2 : Int32 × Int32 × XS → Option Bool) (x1 : Int32) (x2 : Int32) (S : XS) : Option Bool := (if (xi S 4) ≤ x2 then (some false) else (ob1 (fX3_paragraphAt x2 S) (fun r8 => (ob1 (fX1_mentions r8 x1 S) (fun r10 => (if (bi r10) = 0 then (k2 (x1, (x2 + 1), S)) else (some true)))))))
def fX3_namesAnywhere (p0 : Int32) (S : XS) : Option Bool := (lp (fun k q => bX3_namesAnywhere_2  k q.1 q.2.1 q.2.2) FU (p0, 0, S))
set_option maxHeartbeats 4000000 in
set_option maxRecDepth 100000 in
theorem okX3_namesAnywhere (l : Launch) (D : va_G) (cy : Nat → ClassId) (ad : Nat → Nat) (A : Nat → Prop) (hD : ∀ S, va_D A (wX cy ad S)) (p0 : Int32) (S : XS) (r : Bool) (hf : fX3_namesAnywhere p0 S = some r) : MI l yX3_namesAnywhere wsX3_namesAnywhere { frames := 2, cells := 0, slots := 0, locals := 42 } D cy A (wX cy ad S) [.ref (ad 5), .int p0] (bi r) (wX cy ad S) := by
  refine Met.ofW (cc := cX3_namesAnywhere) (maxL := 3) (ret := (some .boolean)) (by decide) rfl ?_
  intro p e s m args below meth c s₁ B hml hv
  obtain ⟨ha, hP, hK⟩ := hv
  have hx := B.exec
  have hb := B.bytes
  have hr := B.returns
  have hts := atoms_spec (ws := wsX3_namesAnywhere) B.pre
  have hown : s.vm.findClass RX3 = some m.cls := findClass_of_methodNamed B.named
  have hlocks := B.notSynchronized
  have hS : va_S A s.heap s.heap [] := va_S.rf
  obtain ⟨ls, hl, he0⟩ := ent (m := m) ha (n := 3) (Nat.le_of_ble_eq_true rfl)
  refine W.eq he0 ?_
  have hl : lv_has ls 3 [(0, .ref (ad 5)), (1, .int p0)] := hl
  have K2 : ∀ (n : Nat), ∀ (x1 : Int32) (x2 : Int32) (S : XS) (H : Heap) (locs : List Loc) (ls : Array Slot), va_P D vwCl (wX cy ad S) H → va_S A s.heap H locs → lv_has ls 3 [(0, .ref (ad 5)), (1, .int x1), (2, .int x2)] → lp (fun k q => bX3_namesAnywhere_2  k q.1 q.2.1 q.2.2) n (x1, x2, S) = some r → W p l e (headSpec wsX3_namesAnywhere { frames := 2, cells := 0, slots := 0, locals := 42 }).room s m args below meth c H locs 0 0 (MQ below (QcI D A (bi r) (wX cy ad S)) args s 0 0 A) (F0 m 2 ls []) := by
    intro  n
    induction n with
    | zero =>
      intro x1 x2 S H locs ls hP hS hl hf
      cases hf
    | succ n ih2 =>
      intro x1 x2 S H locs ls hP hS hl hf
      have hf : bX3_namesAnywhere_2  (lp (fun k q => bX3_namesAnywhere_2  k q.1 q.2.1 q.2.2) n) x1 x2 S = some r := hf
      generalize lp (fun k q => bX3_namesAnywhere_2  k q.1 q.2.1 q.2.2) n = k2 at hf ih2
      unfold bX3_namesAnywhere_2 at hf
      refine lv_iload_n hx hb dX3_namesAnywhere_2 rfl (lv_at hl 2 rfl) ?_
      refine lv_aload_n hx hb dX3_namesAnywhere_3 rfl (lv_at hl 0 rfl) ?_
      refine gfX3_2 hx hb hts (fun _ h => List.mem_cons_of_mem _ (List.mem_append_left _ (List.mem_append_right _ h))) hown hK hP (hts (Cond.fieldLink RX3 22 "WhoSpeaks$Story" "count" "I") (List.mem_of_getElem? (i := 1) rfl)) dX3_namesAnywhere_4 ?_
      refine lv_icmp_ge (tgt := 30) hx hb dX3_namesAnywhere_7 (by decide) (fun c7 => ?_) (fun c7 => ?_)
      · have hf := (if_pos c7).symm.trans hf
        refine lv_iconst (v := 0) hx hb dX3_namesAnywhere_30 (by decide) ?_
        have he := Option.some.inj hf
        exact rZ hx hb hr (bi_nar false) hP hS (congrArg bi he) hlocks dX3_namesAnywhere_31
      · have hf := (if_neg c7).symm.trans hf
        refine lv_aload_n hx hb dX3_namesAnywhere_10 rfl (lv_at hl 0 rfl) ?_
        refine lv_iload_n hx hb dX3_namesAnywhere_11 rfl (lv_at hl 2 rfl) ?_
        obtain ⟨r8, h9, hf⟩ := ob1_some hf
        refine kVr (As := [.int x2]) (rest := []) ⟨hx, hb, hml, hown, hts⟩ (okX3_paragraphAt l D cy ad A hD x2 S r8 h9) (cwV 1 hts gX3_namesAnywhere_X3_paragraphAt rfl rfl rfl (by decide +kernel) ⟨Nat.le_of_ble_eq_true rfl, Nat.le_of_ble_eq_true rfl⟩) hK hP hS (va_recv hK.1 hP (ci := 3) (q := (RX3, TX3, 3)) rfl (atX5 cy ad S)) rfl hl.1 rfl (Nat.le_of_ble_eq_true rfl) dX3_namesAnywhere_12 (fun H locs hP hS => ?_)
        refine lv_iload_n hx hb dX3_namesAnywhere_15 rfl (lv_at hl 1 rfl) ?_
        obtain ⟨r10, h11, hf⟩ := ob1_some hf
        refine kVi (As := [.int x1]) (rest := []) ⟨hx, hb, hml, hown, hts⟩ (okX1_mentions l D cy ad A hD r8 x1 S r10 h11) (cwV 1 hts gX3_namesAnywhere_X1_mentions rfl rfl rfl (by decide +kernel) ⟨Nat.le_of_ble_eq_true rfl, Nat.le_of_ble_eq_true rfl⟩) hK hP hS (va_recv hK.1 hP (ci := 1) (q := (RX1, TX1, 14)) rfl (atP0 cy ad S r8 (ck_no h11).1)) rfl hl.1 rfl (Nat.le_of_ble_eq_true rfl) dX3_namesAnywhere_16 (fun H locs hP hS => ?_)
        refine lv_if_eq (tgt := 24) hx hb dX3_namesAnywhere_19 (by decide) (fun c12 => ?_) (fun c12 => ?_)
        · have hf := (if_pos c12).symm.trans hf
          refine lv_iinc (v := (x2 + 1)) (lv' := [(2, .int (x2 + 1)), (0, .ref (ad 5)), (1, .int x1)]) hx hb dX3_namesAnywhere_24 hl (k := 2) rfl rfl (by decide) rfl (fun ls hl => ?_)
          refine lv_goto (tgt := 2) hx hb dX3_namesAnywhere_27 (by decide) ?_
          exact ih2 (x1) ((x2 + 1)) S H locs ls hP hS (lv_sub hl [1, 2, 0] rfl) hf
        · have hf := (if_neg c12).symm.trans hf
          refine lv_iconst (v := 1) hx hb dX3_namesAnywhere_22 (by decide) ?_
          have he := Option.some.inj hf
          exact rZ hx hb hr (bi_nar true) hP hS (congrArg bi he) hlocks dX3_namesAnywhere_23
  unfold fX3_namesAnywhere at hf
  suffices hG : ∀ (H : Heap) (locs : List Loc), va_P D vwCl (wX cy ad S) H → va_S A s.heap H locs → W p l e (headSpec wsX3_namesAnywhere { frames := 2, cells := 0, slots := 0, locals := 42 }).room s m args below meth c H locs 0 0 (MQ below (QcI D A (bi r) (wX cy ad S)) args s 0 0 A) (F0 m 0 ls []) by exact hG s.heap [] hP va_S.rf
  clear hP hS
  intro H locs hP hS
  refine lv_iconst (v := 0) hx hb dX3_namesAnywhere_0 (by decide) ?_
  refine lv_istore_n (lv' := [(2, .int 0), (0, .ref (ad 5)), (1, .int p0)]) hx hb dX3_namesAnywhere_1 rfl hl (by decide) rfl (fun ls hl => ?_)
  exact K2  FU (p0) (0) S H locs ls hP hS (lv_sub hl [1, 2, 0] rfl) hf

def fX0_clear  (S : XS) : Option XS := (bnd (xiW S 5 0) (fun S2 => (some S2)))
set_option maxHeartbeats 4000000 in
set_option maxRecDepth 100000 in
theorem okX0_clear (l : Launch) (D : va_G) (cy : Nat → ClassId) (ad : Nat → Nat) (A : Nat → Prop) (hD : ∀ S, va_D A (wX cy ad S))  (S : XS) (S' : XS) (hf : fX0_clear  S = some S') : MV l yX0_clear wsX0_clear { frames := 0, cells := 0, slots := 0, locals := 0 } D cy A (wX cy ad S) [.ref (ad 7)] (wX cy ad S') := by
  refine Met.ofW (cc := cX0_clear) (maxL := 1) (ret := none) (by decide) rfl ?_
  intro p e s m args below meth c s₁ B hml hv
  obtain ⟨ha, hP, hK⟩ := hv
  have hx := B.exec
  have hb := B.bytes
  have hr := B.returns
  have hts := atoms_spec (ws := wsX0_clear) B.pre
  have hown : s.vm.findClass RX0 = some m.cls := findClass_of_methodNamed B.named
  have hlocks := B.notSynchronized
  have hS : va_S A s.heap s.heap [] := va_S.rf
  obtain ⟨ls, hl, he0⟩ := ent (m := m) ha (n := 1) (Nat.le_of_ble_eq_true rfl)
  refine W.eq he0 ?_
  have hl : lv_has ls 1 [(0, .ref (ad 7))] := hl
  unfold fX0_clear at hf
  suffices hG : ∀ (H : Heap) (locs : List Loc), va_P D vwCl (wX cy ad S) H → va_S A s.heap H locs → W p l e (headSpec wsX0_clear { frames := 0, cells := 0, slots := 0, locals := 0 }).room s m args below meth c H locs 0 0 (MQ below (QcV D A (wX cy ad S')) args s 0 0 A) (F0 m 0 ls []) by exact hG s.heap [] hP va_S.rf
  clear hP hS
  intro H locs hP hS
  refine lv_aload_n hx hb dX0_clear_0 rfl (lv_at hl 0 rfl) ?_
  refine lv_iconst (v := 0) hx hb dX0_clear_1 (by decide) ?_
  refine pfX0_8 (v := 0) hx hb hts (fun _ h => List.mem_cons_of_mem _ (List.mem_append_right _ h)) hown hK hP hD hS (hts (Cond.fieldLink RX0 38 "WhoSpeaks$Chain" "count" "I") (List.mem_of_getElem? (i := 1) rfl)) dX0_clear_2 (fun S2 eS2 H locs hP hS => ?_)
  have hf := bnd_of eS2 hf
  cases hf
  exact rV hx hb hr hP hS hlocks dX0_clear_5

def fX3_length  (S : XS) : Int32 := (xi S 4)
set_option maxHeartbeats 4000000 in
set_option maxRecDepth 100000 in
theorem okX3_length (l : Launch) (D : va_G) (cy : Nat → ClassId) (ad : Nat → Nat) (A : Nat → Prop) (hD : ∀ S, va_D A (wX cy ad S))  (S : XS) (r : Int32) (hf : fX3_length  S = r) : MI l yX3_length wsX3_length { frames := 0, cells := 0, slots := 0, locals := 0 } D cy A (wX cy ad S) [.ref (ad 5)] r (wX cy ad S) := by
  refine Met.ofW (cc := cX3_length) (maxL := 1) (ret := (some .int)) (by decide) rfl ?_
  intro p e s m args below meth c s₁ B hml hv
  obtain ⟨ha, hP, hK⟩ := hv
  have hx := B.exec
  have hb := B.bytes
  have hr := B.returns
  have hts := atoms_spec (ws := wsX3_length) B.pre
  have hown : s.vm.findClass RX3 = some m.cls := findClass_of_methodNamed B.named
  have hlocks := B.notSynchronized
  have hS : va_S A s.heap s.heap [] := va_S.rf
  obtain ⟨ls, hl, he0⟩ := ent (m := m) ha (n := 1) (Nat.le_of_ble_eq_true rfl)
  refine W.eq he0 ?_
  have hl : lv_has ls 1 [(0, .ref (ad 5))] := hl
  unfold fX3_length at hf
  suffices hG : ∀ (H : Heap) (locs : List Loc), va_P D vwCl (wX cy ad S) H → va_S A s.heap H locs → W p l e (headSpec wsX3_length { frames := 0, cells := 0, slots := 0, locals := 0 }).room s m args below meth c H locs 0 0 (MQ below (QcI D A r (wX cy ad S)) args s 0 0 A) (F0 m 0 ls []) by exact hG s.heap [] hP va_S.rf
  clear hP hS
  intro H locs hP hS
  refine lv_aload_n hx hb dX3_length_0 rfl (lv_at hl 0 rfl) ?_
  refine gfX3_2 hx hb hts (fun _ h => List.mem_cons_of_mem _ (List.mem_append_right _ h)) hown hK hP (hts (Cond.fieldLink RX3 22 "WhoSpeaks$Story" "count" "I") (List.mem_of_getElem? (i := 1) rfl)) dX3_length_1 ?_
  have he := hf
  exact rI hx hb hr hP hS he hlocks dX3_length_4

def fX1_speaks (i : Nat) (S : XS) : Option Bool := (if i < 17 then (if (xp S i 6) ≤ 0 then (some false) else (some true)) else none)
set_option maxHeartbeats 4000000 in
set_option maxRecDepth 100000 in
theorem okX1_speaks (l : Launch) (D : va_G) (cy : Nat → ClassId) (ad : Nat → Nat) (A : Nat → Prop) (hD : ∀ S, va_D A (wX cy ad S)) (i : Nat) (S : XS) (r : Bool) (hf : fX1_speaks i S = some r) : MI l yX1_speaks wsX1_speaks { frames := 0, cells := 0, slots := 0, locals := 0 } D cy A (wX cy ad S) [.ref (ad (19 + 3 * i))] (bi r) (wX cy ad S) := by
  refine Met.ofW (cc := cX1_speaks) (maxL := 1) (ret := (some .boolean)) (by decide) rfl ?_
  intro p e s m args below meth c s₁ B hml hv
  obtain ⟨ha, hP, hK⟩ := hv
  have hx := B.exec
  have hb := B.bytes
  have hr := B.returns
  have hts := atoms_spec (ws := wsX1_speaks) B.pre
  have hown : s.vm.findClass RX1 = some m.cls := findClass_of_methodNamed B.named
  have hlocks := B.notSynchronized
  have hS : va_S A s.heap s.heap [] := va_S.rf
  obtain ⟨ls, hl, he0⟩ := ent (m := m) ha (n := 1) (Nat.le_of_ble_eq_true rfl)
  refine W.eq he0 ?_
  unfold fX1_speaks at hf
  obtain ⟨hi, hf⟩ := ck_no hf
  have hl : lv_has ls 1 [(0, .ref (ad (19 + 3 * i)))] := hl
  skip
  suffices hG : ∀ (H : Heap) (locs : List Loc), va_P D vwCl (wX cy ad S) H → va_S A s.heap H locs → W p l e (headSpec wsX1_speaks { frames := 0, cells := 0, slots := 0, locals := 0 }).room s m args below meth c H locs 0 0 (MQ below (QcI D A (bi r) (wX cy ad S)) args s 0 0 A) (F0 m 0 ls []) by exact hG s.heap [] hP va_S.rf
  clear hP hS
  intro H locs hP hS
  refine lv_aload_n hx hb dX1_speaks_0 rfl (lv_at hl 0 rfl) ?_
  refine gfX1_6 hi hx hb hts (fun _ h => List.mem_cons_of_mem _ (List.mem_append_right _ h)) hown hK hP (hts (Cond.fieldLink RX1 35 "WhoSpeaks$Paragraph" "quoteCount" "I") (List.mem_of_getElem? (i := 1) rfl)) dX1_speaks_1 ?_
  refine lv_if_le (tgt := 11) hx hb dX1_speaks_4 (by decide) (fun c2 => ?_) (fun c2 => ?_)
  · have hf := (if_pos c2).symm.trans hf
    refine lv_iconst (v := 0) hx hb dX1_speaks_11 (by decide) ?_
    have he := Option.some.inj hf
    exact rZ hx hb hr (bi_nar false) hP hS (congrArg bi he) hlocks dX1_speaks_12
  · have hf := (if_neg c2).symm.trans hf
    refine lv_iconst (v := 1) hx hb dX1_speaks_7 (by decide) ?_
    refine lv_goto (tgt := 12) hx hb dX1_speaks_8 (by decide) ?_
    have he := Option.some.inj hf
    exact rZ hx hb hr (bi_nar true) hP hS (congrArg bi he) hlocks dX1_speaks_12

def fX2_thereSet  (S : XS) : Int32 := (xi S 2)
set_option maxHeartbeats 4000000 in
set_option maxRecDepth 100000 in
theorem okX2_thereSet (l : Launch) (D : va_G) (cy : Nat → ClassId) (ad : Nat → Nat) (A : Nat → Prop) (hD : ∀ S, va_D A (wX cy ad S))  (S : XS) (r : Int32) (hf : fX2_thereSet  S = r) : MI l yX2_thereSet wsX2_thereSet { frames := 0, cells := 0, slots := 0, locals := 0 } D cy A (wX cy ad S) [.ref (ad 1)] r (wX cy ad S) := by
  refine Met.ofW (cc := cX2_thereSet) (maxL := 1) (ret := (some .int)) (by decide) rfl ?_
  intro p e s m args below meth c s₁ B hml hv
  obtain ⟨ha, hP, hK⟩ := hv
  have hx := B.exec
  have hb := B.bytes
  have hr := B.returns
  have hts := atoms_spec (ws := wsX2_thereSet) B.pre
  have hown : s.vm.findClass RX2 = some m.cls := findClass_of_methodNamed B.named
  have hlocks := B.notSynchronized
  have hS : va_S A s.heap s.heap [] := va_S.rf
  obtain ⟨ls, hl, he0⟩ := ent (m := m) ha (n := 1) (Nat.le_of_ble_eq_true rfl)
  refine W.eq he0 ?_
  have hl : lv_has ls 1 [(0, .ref (ad 1))] := hl
  unfold fX2_thereSet at hf
  suffices hG : ∀ (H : Heap) (locs : List Loc), va_P D vwCl (wX cy ad S) H → va_S A s.heap H locs → W p l e (headSpec wsX2_thereSet { frames := 0, cells := 0, slots := 0, locals := 0 }).room s m args below meth c H locs 0 0 (MQ below (QcI D A r (wX cy ad S)) args s 0 0 A) (F0 m 0 ls []) by exact hG s.heap [] hP va_S.rf
  clear hP hS
  intro H locs hP hS
  refine lv_aload_n hx hb dX2_thereSet_0 rfl (lv_at hl 0 rfl) ?_
  refine gfX2_1 hx hb hts (fun _ h => List.mem_cons_of_mem _ (List.mem_append_right _ h)) hown hK hP (hts (Cond.fieldLink RX2 15 "WhoSpeaks$People" "there" "I") (List.mem_of_getElem? (i := 1) rfl)) dX2_thereSet_1 ?_
  have he := hf
  exact rI hx hb hr hP hS he hlocks dX2_thereSet_4

def bX2_allOfSort_4  (k4 : Int32 × Int32 × Int32 × XS → Option Int32) (x1 : Int32) (x2 : Int32) (x3 : Int32) (S : XS) : Option Int32 := (if 8 ≤ x3 then (some (x2 &&& (xi S 2))) else (ck x3 8 (if (xa S 2 x3.toNatClampNeg) = x1 then (bnd ((x2 ||| (fX5_bitOf x3))) (fun y17 => (k4 (x1, y17, (x3 + 1), S)))) else (k4 (x1, x2, (x3 + 1), S)))))
def fX2_allOfSort (p0 : Int32) (S : XS) : Option Int32 := (lp (fun k q => bX2_allOfSort_4  k q.1 q.2.1 q.2.2.1 q.2.2.2) FU (p0, 0, 0, S))
set_option maxHeartbeats 4000000 in
set_option maxRecDepth 100000 in
theorem okX2_allOfSort (l : Launch) (D : va_G) (cy : Nat → ClassId) (ad : Nat → Nat) (A : Nat → Prop) (hD : ∀ S, va_D A (wX cy ad S)) (p0 : Int32) (S : XS) (r : Int32) (hf : fX2_allOfSort p0 S = some r) : MI l yX2_allOfSort wsX2_allOfSort { frames := 1, cells := 0, slots := 0, locals := 20 } D cy A (wX cy ad S) [.ref (ad 1), .int p0] r (wX cy ad S) := by
  refine Met.ofW (cc := cX2_allOfSort) (maxL := 4) (ret := (some .int)) (by decide) rfl ?_
  intro p e s m args below meth c s₁ B hml hv
  obtain ⟨ha, hP, hK⟩ := hv
  have hx := B.exec
  have hb := B.bytes
  have hr := B.returns
  have hts := atoms_spec (ws := wsX2_allOfSort) B.pre
  have hown : s.vm.findClass RX2 = some m.cls := findClass_of_methodNamed B.named
  have hlocks := B.notSynchronized
  have hS : va_S A s.heap s.heap [] := va_S.rf
  obtain ⟨ls, hl, he0⟩ := ent (m := m) ha (n := 4) (Nat.le_of_ble_eq_true rfl)
  refine W.eq he0 ?_
  have hl : lv_has ls 4 [(0, .ref (ad 1)), (1, .int p0)] := hl
  have K4 : ∀ (n : Nat), ∀ (x1 : Int32) (x2 : Int32) (x3 : Int32) (S : XS) (H : Heap) (locs : List Loc) (ls : Array Slot), va_P D vwCl (wX cy ad S) H → va_S A s.heap H locs → lv_has ls 4 [(0, .ref (ad 1)), (1, .int x1), (2, .int x2), (3, .int x3)] → lp (fun k q => bX2_allOfSort_4  k q.1 q.2.1 q.2.2.1 q.2.2.2) n (x1, x2, x3, S) = some r → W p l e (headSpec wsX2_allOfSort { frames := 1, cells := 0, slots := 0, locals := 20 }).room s m args below meth c H locs 0 0 (MQ below (QcI D A r (wX cy ad S)) args s 0 0 A) (F0 m 4 ls []) := by
    intro  n
    induction n with
    | zero =>
      intro x1 x2 x3 S H locs ls hP hS hl hf
      cases hf
    | succ n ih4 =>
      intro x1 x2 x3 S H locs ls hP hS hl hf
      have hf : bX2_allOfSort_4  (lp (fun k q => bX2_allOfSort_4  k q.1 q.2.1 q.2.2.1 q.2.2.2) n) x1 x2 x3 S = some r := hf
      generalize lp (fun k q => bX2_allOfSort_4  k q.1 q.2.1 q.2.2.1 q.2.2.2) n = k4 at hf ih4
      unfold bX2_allOfSort_4 at hf
      refine lv_iload_n hx hb dX2_allOfSort_4 rfl (lv_at hl 3 rfl) ?_
      refine lv_aload_n hx hb dX2_allOfSort_5 rfl (lv_at hl 0 rfl) ?_
      refine gfX2_0 hx hb hts (fun _ h => List.mem_cons_of_mem _ (List.mem_append_right _ h)) hown hK hP (hts (Cond.fieldLink RX2 9 "WhoSpeaks$People" "sorts" "[I") (List.mem_of_getElem? (i := 1) rfl)) dX2_allOfSort_6 ?_
      refine anX2 hx hb hK hP dX2_allOfSort_9 ?_
      refine lv_icmp_ge (tgt := 36) hx hb dX2_allOfSort_10 (by decide) (fun c13 => ?_) (fun c13 => ?_)
      · have hf := (if_pos c13).symm.trans hf
        refine lv_iload_n hx hb dX2_allOfSort_36 rfl (lv_at hl 2 rfl) ?_
        refine lv_aload_n hx hb dX2_allOfSort_37 rfl (lv_at hl 0 rfl) ?_
        refine gfX2_1 hx hb hts (fun _ h => List.mem_cons_of_mem _ (List.mem_append_right _ h)) hown hK hP (hts (Cond.fieldLink RX2 15 "WhoSpeaks$People" "there" "I") (List.mem_of_getElem? (i := 2) rfl)) dX2_allOfSort_38 ?_
        refine lv_iand hx hb dX2_allOfSort_41 ?_
        have he := Option.some.inj hf
        exact rI hx hb hr hP hS he hlocks dX2_allOfSort_42
      · have hf := (if_neg c13).symm.trans hf
        refine lv_aload_n hx hb dX2_allOfSort_13 rfl (lv_at hl 0 rfl) ?_
        refine gfX2_0 hx hb hts (fun _ h => List.mem_cons_of_mem _ (List.mem_append_right _ h)) hown hK hP (hts (Cond.fieldLink RX2 9 "WhoSpeaks$People" "sorts" "[I") (List.mem_of_getElem? (i := 1) rfl)) dX2_allOfSort_14 ?_
        refine lv_iload_n hx hb dX2_allOfSort_17 rfl (lv_at hl 3 rfl) ?_
        obtain ⟨c14, hf⟩ := ck_some hf
        refine alX2 hx hb hK hP c14 dX2_allOfSort_18 ?_
        refine lv_iload_n hx hb dX2_allOfSort_19 rfl (lv_at hl 1 rfl) ?_
        refine lv_icmp_ne (tgt := 30) hx hb dX2_allOfSort_20 (by decide) (fun c15 => ?_) (fun c15 => ?_)
        · have hf := (if_neg c15).symm.trans hf
          refine lv_iinc (v := (x3 + 1)) (lv' := [(3, .int (x3 + 1)), (0, .ref (ad 1)), (1, .int x1), (2, .int x2)]) hx hb dX2_allOfSort_30 hl (k := 3) rfl rfl (by decide) rfl (fun ls hl => ?_)
          refine lv_goto (tgt := 4) hx hb dX2_allOfSort_33 (by decide) ?_
          exact ih4 (x1) (x2) ((x3 + 1)) S H locs ls hP hS (lv_sub hl [1, 2, 3, 0] rfl) hf
        · have hf := (if_pos c15).symm.trans hf
          refine lv_iload_n hx hb dX2_allOfSort_23 rfl (lv_at hl 2 rfl) ?_
          refine lv_iload_n hx hb dX2_allOfSort_24 rfl (lv_at hl 3 rfl) ?_
          refine kNi (As := [.int x3]) (rest := [.int x2]) ⟨hx, hb, hml, hown, hts⟩ (okX5_bitOf l D cy A (wX cy ad S) x3 _ rfl) ⟨va_cnB 1 hts gX2_allOfSort_X5_bitOf_n19 rfl rfl rfl hK.2.2.1 (hts (Cond.initialized RX5) (List.mem_of_getElem? (i := 4) rfl)) (by decide +kernel) ⟨Nat.le_of_ble_eq_true rfl, Nat.le_of_ble_eq_true rfl⟩, (hts (Cond.static yX5_bitOf) (List.mem_of_getElem? (i := 3) rfl)), trivial⟩ hK hP hS rfl hl.1 rfl (Nat.le_of_ble_eq_true rfl) dX2_allOfSort_25 (fun H locs hP hS => ?_)
          refine lv_ior hx hb dX2_allOfSort_28 ?_
          refine lv_topi (fun y17 ey17 => ?_)
          have hf := bnd_of ey17 hf
          refine lv_istore_n (lv' := [(2, .int y17), (0, .ref (ad 1)), (1, .int x1), (3, .int x3)]) hx hb dX2_allOfSort_29 rfl hl (by decide) rfl (fun ls hl => ?_)
          refine lv_iinc (v := (x3 + 1)) (lv' := [(3, .int (x3 + 1)), (2, .int y17), (0, .ref (ad 1)), (1, .int x1)]) hx hb dX2_allOfSort_30 hl (k := 3) rfl rfl (by decide) rfl (fun ls hl => ?_)
          refine lv_goto (tgt := 4) hx hb dX2_allOfSort_33 (by decide) ?_
          exact ih4 (x1) (y17) ((x3 + 1)) S H locs ls hP hS (lv_sub hl [2, 3, 1, 0] rfl) hf
  unfold fX2_allOfSort at hf
  suffices hG : ∀ (H : Heap) (locs : List Loc), va_P D vwCl (wX cy ad S) H → va_S A s.heap H locs → W p l e (headSpec wsX2_allOfSort { frames := 1, cells := 0, slots := 0, locals := 20 }).room s m args below meth c H locs 0 0 (MQ below (QcI D A r (wX cy ad S)) args s 0 0 A) (F0 m 0 ls []) by exact hG s.heap [] hP va_S.rf
  clear hP hS
  intro H locs hP hS
  refine lv_iconst (v := 0) hx hb dX2_allOfSort_0 (by decide) ?_
  refine lv_istore_n (lv' := [(2, .int 0), (0, .ref (ad 1)), (1, .int p0)]) hx hb dX2_allOfSort_1 rfl hl (by decide) rfl (fun ls hl => ?_)
  refine lv_iconst (v := 0) hx hb dX2_allOfSort_2 (by decide) ?_
  refine lv_istore_n (lv' := [(3, .int 0), (2, .int 0), (0, .ref (ad 1)), (1, .int p0)]) hx hb dX2_allOfSort_3 rfl hl (by decide) rfl (fun ls hl => ?_)
  exact K4  FU (p0) (0) (0) S H locs ls hP hS (lv_sub hl [2, 3, 1, 0] rfl) hf

def bX1_ownSet_93  (i : Nat) (x3 : Int32) (S : XS) : Option Int32 := (if (xp S i 5) = (-9) then (some x3) else (some (x3 &&& (xp S i 5))))
def bX1_ownSet_80  (i : Nat) (x2 : Int32) (x3 : Int32) (S : XS) : Option Int32 := (if (x2 &&& 4) = 0 then (bX1_ownSet_93  i (x3) S) else (bnd ((x3 &&& (xp S i 13))) (fun y37 => (bX1_ownSet_93  i (y37) S))))
def bX1_ownSet_57  (i : Nat) (x2 : Int32) (s0 : Int32) (s1 : Int32) (S : XS) : Option Int32 := (bnd ((s0 &&& s1)) (fun y38 => (if (xp S i 12) = 0 then (bnd ((y38 &&& 255)) (fun y40 => (bX1_ownSet_80  i (x2) (y40) S))) else (ob1 (fX2_allOfSort 1 S) (fun r41 => (bnd ((y38 &&& r41)) (fun y43 => (bX1_ownSet_80  i (x2) (y43) S))))))))
def bX1_ownSet_25  (i : Nat) (x2 : Int32) (x3 : Int32) (S : XS) : Option Int32 := (if (x2 &&& 2) = 0 then (bX1_ownSet_80  i (x2) (x3) S) else (bnd ((x3 &&& (xp S i 10))) (fun y45 => (if (xp S i 11) = 0 then (bX1_ownSet_57  i (x2) (y45) (255) S) else (ob1 (fX2_allOfSort 0 S) (fun r47 => (bX1_ownSet_57  i (x2) (y45) (r47) S)))))))
def fX1_ownSet (i : Nat) (p1 : Int32) (S : XS) : Option Int32 := (if i < 17 then (bnd (((xp S i 4) &&& (fX2_thereSet  S))) (fun y50 => (if (p1 &&& 1) = 0 then (bX1_ownSet_25  i (p1) (y50) S) else (bnd ((y50 &&& ((xp S i 8) ^^^ (-1)))) (fun y52 => (bX1_ownSet_25  i (p1) (y52) S)))))) else none)
set_option maxHeartbeats 4000000 in
set_option maxRecDepth 100000 in
theorem okX1_ownSet (l : Launch) (D : va_G) (cy : Nat → ClassId) (ad : Nat → Nat) (A : Nat → Prop) (hD : ∀ S, va_D A (wX cy ad S)) (i : Nat) (p1 : Int32) (S : XS) (r : Int32) (hf : fX1_ownSet i p1 S = some r) : MI l yX1_ownSet wsX1_ownSet { frames := 2, cells := 0, slots := 0, locals := 43 } D cy A (wX cy ad S) [.ref (ad (19 + 3 * i)), .ref (ad 1), .int p1] r (wX cy ad S) := by
  refine Met.ofW (cc := cX1_ownSet) (maxL := 4) (ret := (some .int)) (by decide) rfl ?_
  intro p e s m args below meth c s₁ B hml hv
  obtain ⟨ha, hP, hK⟩ := hv
  have hx := B.exec
  have hb := B.bytes
  have hr := B.returns
  have hts := atoms_spec (ws := wsX1_ownSet) B.pre
  have hown : s.vm.findClass RX1 = some m.cls := findClass_of_methodNamed B.named
  have hlocks := B.notSynchronized
  have hS : va_S A s.heap s.heap [] := va_S.rf
  obtain ⟨ls, hl, he0⟩ := ent (m := m) ha (n := 4) (Nat.le_of_ble_eq_true rfl)
  refine W.eq he0 ?_
  unfold fX1_ownSet at hf
  obtain ⟨hi, hf⟩ := ck_no hf
  have hl : lv_has ls 4 [(0, .ref (ad (19 + 3 * i))), (1, .ref (ad 1)), (2, .int p1)] := hl
  have K93 : ∀ (x3 : Int32) (S : XS) (H : Heap) (locs : List Loc) (ls : Array Slot), va_P D vwCl (wX cy ad S) H → va_S A s.heap H locs → lv_has ls 4 [(0, .ref (ad (19 + 3 * i))), (3, .int x3)] → bX1_ownSet_93  i x3 S = some r → W p l e (headSpec wsX1_ownSet { frames := 2, cells := 0, slots := 0, locals := 43 }).room s m args below meth c H locs 0 0 (MQ below (QcI D A r (wX cy ad S)) args s 0 0 A) (F0 m 93 ls []) := by
    intro  x3 S H locs ls hP hS hl hf
    unfold bX1_ownSet_93 at hf
    refine lv_aload_n hx hb dX1_ownSet_93 rfl (lv_at hl 0 rfl) ?_
    refine gfX1_5 hi hx hb hts (fun _ h => List.mem_cons_of_mem _ (List.mem_append_left _ (List.mem_append_right _ h))) hown hK hP (hts (Cond.fieldLink RX1 32 "WhoSpeaks$Paragraph" "hint" "I") (List.mem_of_getElem? (i := 7) rfl)) dX1_ownSet_94 ?_
    refine lv_bipush (v := (-9)) hx hb dX1_ownSet_97 (by decide) ?_
    refine lv_icmp_ne (tgt := 106) hx hb dX1_ownSet_99 (by decide) (fun c35 => ?_) (fun c35 => ?_)
    · have hf := (if_neg c35).symm.trans hf
      refine lv_iload_n hx hb dX1_ownSet_106 rfl (lv_at hl 1 rfl) ?_
      refine lv_aload_n hx hb dX1_ownSet_107 rfl (lv_at hl 0 rfl) ?_
      refine gfX1_5 hi hx hb hts (fun _ h => List.mem_cons_of_mem _ (List.mem_append_left _ (List.mem_append_right _ h))) hown hK hP (hts (Cond.fieldLink RX1 32 "WhoSpeaks$Paragraph" "hint" "I") (List.mem_of_getElem? (i := 7) rfl)) dX1_ownSet_108 ?_
      refine lv_iand hx hb dX1_ownSet_111 ?_
      have he := Option.some.inj hf
      exact rI hx hb hr hP hS he hlocks dX1_ownSet_112
    · have hf := (if_pos c35).symm.trans hf
      refine lv_iload_n hx hb dX1_ownSet_102 rfl (lv_at hl 1 rfl) ?_
      refine lv_goto (tgt := 112) hx hb dX1_ownSet_103 (by decide) ?_
      have he := Option.some.inj hf
      exact rI hx hb hr hP hS he hlocks dX1_ownSet_112
  have K80 : ∀ (x2 : Int32) (x3 : Int32) (S : XS) (H : Heap) (locs : List Loc) (ls : Array Slot), va_P D vwCl (wX cy ad S) H → va_S A s.heap H locs → lv_has ls 4 [(0, .ref (ad (19 + 3 * i))), (2, .int x2), (3, .int x3)] → bX1_ownSet_80  i x2 x3 S = some r → W p l e (headSpec wsX1_ownSet { frames := 2, cells := 0, slots := 0, locals := 43 }).room s m args below meth c H locs 0 0 (MQ below (QcI D A r (wX cy ad S)) args s 0 0 A) (F0 m 80 ls []) := by
    intro  x2 x3 S H locs ls hP hS hl hf
    unfold bX1_ownSet_80 at hf
    refine lv_iload_n hx hb dX1_ownSet_80 rfl (lv_at hl 1 rfl) ?_
    refine lv_iconst (v := 4) hx hb dX1_ownSet_81 (by decide) ?_
    refine lv_iand hx hb dX1_ownSet_82 ?_
    refine lv_if_eq (tgt := 93) hx hb dX1_ownSet_83 (by decide) (fun c36 => ?_) (fun c36 => ?_)
    · have hf := (if_pos c36).symm.trans hf
      exact K93  (x3) S H locs ls hP hS (lv_sub hl [0, 2] rfl) hf
    · have hf := (if_neg c36).symm.trans hf
      refine lv_iload_n hx hb dX1_ownSet_86 rfl (lv_at hl 2 rfl) ?_
      refine lv_aload_n hx hb dX1_ownSet_87 rfl (lv_at hl 0 rfl) ?_
      refine gfX1_13 hi hx hb hts (fun _ h => List.mem_cons_of_mem _ (List.mem_append_left _ (List.mem_append_right _ h))) hown hK hP (hts (Cond.fieldLink RX1 56 "WhoSpeaks$Paragraph" "doers" "I") (List.mem_of_getElem? (i := 6) rfl)) dX1_ownSet_88 ?_
      refine lv_iand hx hb dX1_ownSet_91 ?_
      refine lv_topi (fun y37 ey37 => ?_)
      have hf := bnd_of ey37 hf
      refine lv_istore_n (lv' := [(3, .int y37), (0, .ref (ad (19 + 3 * i))), (2, .int x2)]) hx hb dX1_ownSet_92 rfl hl (by decide) rfl (fun ls hl => ?_)
      exact K93  (y37) S H locs ls hP hS (lv_sub hl [1, 0] rfl) hf
  have K57 : ∀ (x2 : Int32) (s0 : Int32) (s1 : Int32) (S : XS) (H : Heap) (locs : List Loc) (ls : Array Slot), va_P D vwCl (wX cy ad S) H → va_S A s.heap H locs → lv_has ls 4 [(0, .ref (ad (19 + 3 * i))), (1, .ref (ad 1)), (2, .int x2)] → bX1_ownSet_57  i x2 s0 s1 S = some r → W p l e (headSpec wsX1_ownSet { frames := 2, cells := 0, slots := 0, locals := 43 }).room s m args below meth c H locs 0 0 (MQ below (QcI D A r (wX cy ad S)) args s 0 0 A) (F0 m 57 ls [.int s1, .int s0]) := by
    intro  x2 s0 s1 S H locs ls hP hS hl hf
    unfold bX1_ownSet_57 at hf
    refine lv_iand hx hb dX1_ownSet_57 ?_
    refine lv_topi (fun y38 ey38 => ?_)
    have hf := bnd_of ey38 hf
    refine lv_istore_n (lv' := [(3, .int y38), (0, .ref (ad (19 + 3 * i))), (1, .ref (ad 1)), (2, .int x2)]) hx hb dX1_ownSet_58 rfl hl (by decide) rfl (fun ls hl => ?_)
    refine lv_iload_n hx hb dX1_ownSet_59 rfl (lv_at hl 0 rfl) ?_
    refine lv_aload_n hx hb dX1_ownSet_60 rfl (lv_at hl 1 rfl) ?_
    refine gfX1_12 hi hx hb hts (fun _ h => List.mem_cons_of_mem _ (List.mem_append_left _ (List.mem_append_right _ h))) hown hK hP (hts (Cond.fieldLink RX1 53 "WhoSpeaks$Paragraph" "sheSpeaks" "Z") (List.mem_of_getElem? (i := 5) rfl)) dX1_ownSet_61 ?_
    refine lv_if_eq (tgt := 75) hx hb dX1_ownSet_64 (by decide) (fun c39 => ?_) (fun c39 => ?_)
    · have hf := (if_pos c39).symm.trans hf
      refine lv_sipush (v := 255) hx hb dX1_ownSet_75 (by decide) ?_
      refine lv_iand hx hb dX1_ownSet_78 ?_
      refine lv_topi (fun y40 ey40 => ?_)
      have hf := bnd_of ey40 hf
      refine lv_istore_n (lv' := [(3, .int y40), (0, .ref (ad (19 + 3 * i))), (1, .ref (ad 1)), (2, .int x2)]) hx hb dX1_ownSet_79 rfl hl (by decide) rfl (fun ls hl => ?_)
      exact K80  (x2) (y40) S H locs ls hP hS (lv_sub hl [1, 3, 0] rfl) hf
    · have hf := (if_neg c39).symm.trans hf
      refine lv_aload_n hx hb dX1_ownSet_67 rfl (lv_at hl 2 rfl) ?_
      refine lv_iconst (v := 1) hx hb dX1_ownSet_68 (by decide) ?_
      obtain ⟨r41, h42, hf⟩ := ob1_some hf
      refine kVi (As := [.int 1]) (rest := [.int y38]) ⟨hx, hb, hml, hown, hts⟩ (okX2_allOfSort l D cy ad A hD 1 S r41 h42) (cwV 1 hts gX1_ownSet_X2_allOfSort rfl rfl rfl (by decide +kernel) ⟨Nat.le_of_ble_eq_true rfl, Nat.le_of_ble_eq_true rfl⟩) hK hP hS (va_recv hK.1 hP (ci := 2) (q := (RX2, TX2, 2)) rfl (atX1 cy ad S)) rfl hl.1 rfl (Nat.le_of_ble_eq_true rfl) dX1_ownSet_69 (fun H locs hP hS => ?_)
      refine lv_goto (tgt := 78) hx hb dX1_ownSet_72 (by decide) ?_
      refine lv_iand hx hb dX1_ownSet_78 ?_
      refine lv_topi (fun y43 ey43 => ?_)
      have hf := bnd_of ey43 hf
      refine lv_istore_n (lv' := [(3, .int y43), (0, .ref (ad (19 + 3 * i))), (1, .ref (ad 1)), (2, .int x2)]) hx hb dX1_ownSet_79 rfl hl (by decide) rfl (fun ls hl => ?_)
      exact K80  (x2) (y43) S H locs ls hP hS (lv_sub hl [1, 3, 0] rfl) hf
  have K25 : ∀ (x2 : Int32) (x3 : Int32) (S : XS) (H : Heap) (locs : List Loc) (ls : Array Slot), va_P D vwCl (wX cy ad S) H → va_S A s.heap H locs → lv_has ls 4 [(0, .ref (ad (19 + 3 * i))), (1, .ref (ad 1)), (2, .int x2), (3, .int x3)] → bX1_ownSet_25  i x2 x3 S = some r → W p l e (headSpec wsX1_ownSet { frames := 2, cells := 0, slots := 0, locals := 43 }).room s m args below meth c H locs 0 0 (MQ below (QcI D A r (wX cy ad S)) args s 0 0 A) (F0 m 25 ls []) := by
    intro  x2 x3 S H locs ls hP hS hl hf
    unfold bX1_ownSet_25 at hf
    refine lv_iload_n hx hb dX1_ownSet_25 rfl (lv_at hl 2 rfl) ?_
    refine lv_iconst (v := 2) hx hb dX1_ownSet_26 (by decide) ?_
    refine lv_iand hx hb dX1_ownSet_27 ?_
    refine lv_if_eq (tgt := 80) hx hb dX1_ownSet_28 (by decide) (fun c44 => ?_) (fun c44 => ?_)
    · have hf := (if_pos c44).symm.trans hf
      exact K80  (x2) (x3) S H locs ls hP hS (lv_sub hl [0, 2, 3] rfl) hf
    · have hf := (if_neg c44).symm.trans hf
      refine lv_iload_n hx hb dX1_ownSet_31 rfl (lv_at hl 3 rfl) ?_
      refine lv_aload_n hx hb dX1_ownSet_32 rfl (lv_at hl 0 rfl) ?_
      refine gfX1_10 hi hx hb hts (fun _ h => List.mem_cons_of_mem _ (List.mem_append_left _ (List.mem_append_right _ h))) hown hK hP (hts (Cond.fieldLink RX1 47 "WhoSpeaks$Paragraph" "verbNames" "I") (List.mem_of_getElem? (i := 3) rfl)) dX1_ownSet_33 ?_
      refine lv_iand hx hb dX1_ownSet_36 ?_
      refine lv_topi (fun y45 ey45 => ?_)
      have hf := bnd_of ey45 hf
      refine lv_istore_n (lv' := [(3, .int y45), (0, .ref (ad (19 + 3 * i))), (1, .ref (ad 1)), (2, .int x2)]) hx hb dX1_ownSet_37 rfl hl (by decide) rfl (fun ls hl => ?_)
      refine lv_iload_n hx hb dX1_ownSet_38 rfl (lv_at hl 0 rfl) ?_
      refine lv_aload_n hx hb dX1_ownSet_39 rfl (lv_at hl 1 rfl) ?_
      refine gfX1_11 hi hx hb hts (fun _ h => List.mem_cons_of_mem _ (List.mem_append_left _ (List.mem_append_right _ h))) hown hK hP (hts (Cond.fieldLink RX1 50 "WhoSpeaks$Paragraph" "heSpeaks" "Z") (List.mem_of_getElem? (i := 4) rfl)) dX1_ownSet_40 ?_
      refine lv_if_eq (tgt := 54) hx hb dX1_ownSet_43 (by decide) (fun c46 => ?_) (fun c46 => ?_)
      · have hf := (if_pos c46).symm.trans hf
        refine lv_sipush (v := 255) hx hb dX1_ownSet_54 (by decide) ?_
        exact K57  (x2) (y45) (255) S H locs ls hP hS (lv_sub hl [1, 2, 3] rfl) hf
      · have hf := (if_neg c46).symm.trans hf
        refine lv_aload_n hx hb dX1_ownSet_46 rfl (lv_at hl 2 rfl) ?_
        refine lv_iconst (v := 0) hx hb dX1_ownSet_47 (by decide) ?_
        obtain ⟨r47, h48, hf⟩ := ob1_some hf
        refine kVi (As := [.int 0]) (rest := [.int y45]) ⟨hx, hb, hml, hown, hts⟩ (okX2_allOfSort l D cy ad A hD 0 S r47 h48) (cwV 1 hts gX1_ownSet_X2_allOfSort rfl rfl rfl (by decide +kernel) ⟨Nat.le_of_ble_eq_true rfl, Nat.le_of_ble_eq_true rfl⟩) hK hP hS (va_recv hK.1 hP (ci := 2) (q := (RX2, TX2, 2)) rfl (atX1 cy ad S)) rfl hl.1 rfl (Nat.le_of_ble_eq_true rfl) dX1_ownSet_48 (fun H locs hP hS => ?_)
        refine lv_goto (tgt := 57) hx hb dX1_ownSet_51 (by decide) ?_
        exact K57  (x2) (y45) (r47) S H locs ls hP hS (lv_sub hl [1, 2, 3] rfl) hf
  skip
  suffices hG : ∀ (H : Heap) (locs : List Loc), va_P D vwCl (wX cy ad S) H → va_S A s.heap H locs → W p l e (headSpec wsX1_ownSet { frames := 2, cells := 0, slots := 0, locals := 43 }).room s m args below meth c H locs 0 0 (MQ below (QcI D A r (wX cy ad S)) args s 0 0 A) (F0 m 0 ls []) by exact hG s.heap [] hP va_S.rf
  clear hP hS
  intro H locs hP hS
  refine lv_aload_n hx hb dX1_ownSet_0 rfl (lv_at hl 0 rfl) ?_
  refine gfX1_4 hi hx hb hts (fun _ h => List.mem_cons_of_mem _ (List.mem_append_left _ (List.mem_append_right _ h))) hown hK hP (hts (Cond.fieldLink RX1 29 "WhoSpeaks$Paragraph" "here" "I") (List.mem_of_getElem? (i := 1) rfl)) dX1_ownSet_1 ?_
  refine lv_aload_n hx hb dX1_ownSet_4 rfl (lv_at hl 1 rfl) ?_
  refine kVi (As := []) (rest := [.int (xp S i 4)]) ⟨hx, hb, hml, hown, hts⟩ (okX2_thereSet l D cy ad A hD  S _ rfl) (cwV 0 hts gX1_ownSet_X2_thereSet rfl rfl rfl (by decide +kernel) ⟨Nat.le_of_ble_eq_true rfl, Nat.le_of_ble_eq_true rfl⟩) hK hP hS (va_recv hK.1 hP (ci := 2) (q := (RX2, TX2, 2)) rfl (atX1 cy ad S)) rfl hl.1 rfl (Nat.le_of_ble_eq_true rfl) dX1_ownSet_5 (fun H locs hP hS => ?_)
  refine lv_iand hx hb dX1_ownSet_8 ?_
  refine lv_topi (fun y50 ey50 => ?_)
  have hf := bnd_of ey50 hf
  refine lv_istore_n (lv' := [(3, .int y50), (0, .ref (ad (19 + 3 * i))), (1, .ref (ad 1)), (2, .int p1)]) hx hb dX1_ownSet_9 rfl hl (by decide) rfl (fun ls hl => ?_)
  refine lv_iload_n hx hb dX1_ownSet_10 rfl (lv_at hl 3 rfl) ?_
  refine lv_iconst (v := 1) hx hb dX1_ownSet_11 (by decide) ?_
  refine lv_iand hx hb dX1_ownSet_12 ?_
  refine lv_if_eq (tgt := 25) hx hb dX1_ownSet_13 (by decide) (fun c51 => ?_) (fun c51 => ?_)
  · have hf := (if_pos c51).symm.trans hf
    exact K25  (p1) (y50) S H locs ls hP hS (lv_sub hl [1, 2, 3, 0] rfl) hf
  · have hf := (if_neg c51).symm.trans hf
    refine lv_iload_n hx hb dX1_ownSet_16 rfl (lv_at hl 0 rfl) ?_
    refine lv_aload_n hx hb dX1_ownSet_17 rfl (lv_at hl 1 rfl) ?_
    refine gfX1_8 hi hx hb hts (fun _ h => List.mem_cons_of_mem _ (List.mem_append_left _ (List.mem_append_right _ h))) hown hK hP (hts (Cond.fieldLink RX1 41 "WhoSpeaks$Paragraph" "spokenTo" "I") (List.mem_of_getElem? (i := 2) rfl)) dX1_ownSet_18 ?_
    refine lv_iconst (v := (-1)) hx hb dX1_ownSet_21 (by decide) ?_
    refine lv_ixor hx hb dX1_ownSet_22 ?_
    refine lv_iand hx hb dX1_ownSet_23 ?_
    refine lv_topi (fun y52 ey52 => ?_)
    have hf := bnd_of ey52 hf
    refine lv_istore_n (lv' := [(3, .int y52), (0, .ref (ad (19 + 3 * i))), (1, .ref (ad 1)), (2, .int p1)]) hx hb dX1_ownSet_24 rfl hl (by decide) rfl (fun ls hl => ?_)
    exact K25  (p1) (y52) S H locs ls hP hS (lv_sub hl [1, 2, 3, 0] rfl) hf

def fX3_speaksAt (p0 : Int32) (S : XS) : Option Bool := (ob1 (fX3_paragraphAt p0 S) (fun r1 => (ob1 (fX1_speaks r1 S) (fun r3 => (some r3)))))
set_option maxHeartbeats 4000000 in
set_option maxRecDepth 100000 in
theorem okX3_speaksAt (l : Launch) (D : va_G) (cy : Nat → ClassId) (ad : Nat → Nat) (A : Nat → Prop) (hD : ∀ S, va_D A (wX cy ad S)) (p0 : Int32) (S : XS) (r : Bool) (hf : fX3_speaksAt p0 S = some r) : MI l yX3_speaksAt wsX3_speaksAt { frames := 2, cells := 0, slots := 0, locals := 42 } D cy A (wX cy ad S) [.ref (ad 5), .int p0] (bi r) (wX cy ad S) := by
  refine Met.ofW (cc := cX3_speaksAt) (maxL := 2) (ret := (some .boolean)) (by decide) rfl ?_
  intro p e s m args below meth c s₁ B hml hv
  obtain ⟨ha, hP, hK⟩ := hv
  have hx := B.exec
  have hb := B.bytes
  have hr := B.returns
  have hts := atoms_spec (ws := wsX3_speaksAt) B.pre
  have hown : s.vm.findClass RX3 = some m.cls := findClass_of_methodNamed B.named
  have hlocks := B.notSynchronized
  have hS : va_S A s.heap s.heap [] := va_S.rf
  obtain ⟨ls, hl, he0⟩ := ent (m := m) ha (n := 2) (Nat.le_of_ble_eq_true rfl)
  refine W.eq he0 ?_
  have hl : lv_has ls 2 [(0, .ref (ad 5)), (1, .int p0)] := hl
  unfold fX3_speaksAt at hf
  suffices hG : ∀ (H : Heap) (locs : List Loc), va_P D vwCl (wX cy ad S) H → va_S A s.heap H locs → W p l e (headSpec wsX3_speaksAt { frames := 2, cells := 0, slots := 0, locals := 42 }).room s m args below meth c H locs 0 0 (MQ below (QcI D A (bi r) (wX cy ad S)) args s 0 0 A) (F0 m 0 ls []) by exact hG s.heap [] hP va_S.rf
  clear hP hS
  intro H locs hP hS
  refine lv_aload_n hx hb dX3_speaksAt_0 rfl (lv_at hl 0 rfl) ?_
  refine lv_iload_n hx hb dX3_speaksAt_1 rfl (lv_at hl 1 rfl) ?_
  obtain ⟨r1, h2, hf⟩ := ob1_some hf
  refine kVr (As := [.int p0]) (rest := []) ⟨hx, hb, hml, hown, hts⟩ (okX3_paragraphAt l D cy ad A hD p0 S r1 h2) (cwV 1 hts gX3_speaksAt_X3_paragraphAt rfl rfl rfl (by decide +kernel) ⟨Nat.le_of_ble_eq_true rfl, Nat.le_of_ble_eq_true rfl⟩) hK hP hS (va_recv hK.1 hP (ci := 3) (q := (RX3, TX3, 3)) rfl (atX5 cy ad S)) rfl hl.1 rfl (Nat.le_of_ble_eq_true rfl) dX3_speaksAt_2 (fun H locs hP hS => ?_)
  obtain ⟨r3, h4, hf⟩ := ob1_some hf
  refine kVi (As := []) (rest := []) ⟨hx, hb, hml, hown, hts⟩ (okX1_speaks l D cy ad A hD r1 S r3 h4) (cwV 0 hts gX3_speaksAt_X1_speaks rfl rfl rfl (by decide +kernel) ⟨Nat.le_of_ble_eq_true rfl, Nat.le_of_ble_eq_true rfl⟩) hK hP hS (va_recv hK.1 hP (ci := 1) (q := (RX1, TX1, 14)) rfl (atP0 cy ad S r1 (ck_no h4).1)) rfl hl.1 rfl (Nat.le_of_ble_eq_true rfl) dX3_speaksAt_5 (fun H locs hP hS => ?_)
  have he := Option.some.inj hf
  exact rZ hx hb hr (bi_nar r3) hP hS (congrArg bi he) hlocks dX3_speaksAt_8

def fX1_goesOn (i : Nat) (S : XS) : Option Bool := (if i < 17 then (if (xp S i 3) &&& 1 = (xp S i 3) then (some (decide ((xp S i 3) = 1))) else none) else none)
set_option maxHeartbeats 4000000 in
set_option maxRecDepth 100000 in
theorem okX1_goesOn (l : Launch) (D : va_G) (cy : Nat → ClassId) (ad : Nat → Nat) (A : Nat → Prop) (hD : ∀ S, va_D A (wX cy ad S)) (i : Nat) (S : XS) (r : Bool) (hf : fX1_goesOn i S = some r) : MI l yX1_goesOn wsX1_goesOn { frames := 0, cells := 0, slots := 0, locals := 0 } D cy A (wX cy ad S) [.ref (ad (19 + 3 * i))] (bi r) (wX cy ad S) := by
  refine Met.ofW (cc := cX1_goesOn) (maxL := 1) (ret := (some .boolean)) (by decide) rfl ?_
  intro p e s m args below meth c s₁ B hml hv
  obtain ⟨ha, hP, hK⟩ := hv
  have hx := B.exec
  have hb := B.bytes
  have hr := B.returns
  have hts := atoms_spec (ws := wsX1_goesOn) B.pre
  have hown : s.vm.findClass RX1 = some m.cls := findClass_of_methodNamed B.named
  have hlocks := B.notSynchronized
  have hS : va_S A s.heap s.heap [] := va_S.rf
  obtain ⟨ls, hl, he0⟩ := ent (m := m) ha (n := 1) (Nat.le_of_ble_eq_true rfl)
  refine W.eq he0 ?_
  unfold fX1_goesOn at hf
  obtain ⟨hi, hf⟩ := ck_no hf
  have hl : lv_has ls 1 [(0, .ref (ad (19 + 3 * i)))] := hl
  skip
  suffices hG : ∀ (H : Heap) (locs : List Loc), va_P D vwCl (wX cy ad S) H → va_S A s.heap H locs → W p l e (headSpec wsX1_goesOn { frames := 0, cells := 0, slots := 0, locals := 0 }).room s m args below meth c H locs 0 0 (MQ below (QcI D A (bi r) (wX cy ad S)) args s 0 0 A) (F0 m 0 ls []) by exact hG s.heap [] hP va_S.rf
  clear hP hS
  intro H locs hP hS
  refine lv_aload_n hx hb dX1_goesOn_0 rfl (lv_at hl 0 rfl) ?_
  refine gfX1_3 hi hx hb hts (fun _ h => List.mem_cons_of_mem _ (List.mem_append_right _ h)) hown hK hP (hts (Cond.fieldLink RX1 25 "WhoSpeaks$Paragraph" "on" "Z") (List.mem_of_getElem? (i := 1) rfl)) dX1_goesOn_1 ?_
  obtain ⟨cz, hf⟩ := ck_no hf
  have he := Option.some.inj hf
  exact rZ hx hb hr (congrArg Value.int cz) hP hS (bool_back cz he) hlocks dX1_goesOn_4
