def fX3_linkAhead (p0 : Int32) (p1 : Int32) (S : XS) : Option Int32 := (ob1 (fX3_speaksAt (p0 - 1) S) (fun r5 => (if (bi r5) = 0 then (some 0) else (ob1 (fX3_speaksAt p0 S) (fun r8 => (if (bi r8) = 0 then (some 0) else (ob1 (fX3_paragraphAt p0 S) (fun r11 => (ob1 (fX1_goesOn r11 S) (fun r13 => (if (bi r13) = 0 then (if (p1 &&& 8) = 0 then (some 0) else (some 2)) else (some 1))))))))))))
set_option maxHeartbeats 4000000 in
set_option maxRecDepth 100000 in
theorem okX3_linkAhead (l : Launch) (D : va_G) (cy : Nat → ClassId) (ad : Nat → Nat) (A : Nat → Prop) (hD : ∀ S, va_D A (wX cy ad S)) (p0 : Int32) (p1 : Int32) (S : XS) (r : Int32) (hf : fX3_linkAhead p0 p1 S = some r) : MI l yX3_linkAhead wsX3_linkAhead { frames := 3, cells := 0, slots := 0, locals := 63 } D cy A (wX cy ad S) [.ref (ad 5), .int p0, .int p1] r (wX cy ad S) := by
  refine Met.ofW (cc := cX3_linkAhead) (maxL := 3) (ret := (some .int)) (by decide) rfl ?_
  intro p e s m args below meth c s₁ B hml hv
  obtain ⟨ha, hP, hK⟩ := hv
  have hx := B.exec
  have hb := B.bytes
  have hr := B.returns
  have hts := atoms_spec (ws := wsX3_linkAhead) B.pre
  have hown : s.vm.findClass RX3 = some m.cls := findClass_of_methodNamed B.named
  have hlocks := B.notSynchronized
  have hS : va_S A s.heap s.heap [] := va_S.rf
  obtain ⟨ls, hl, he0⟩ := ent (m := m) ha (n := 3) (Nat.le_of_ble_eq_true rfl)
  refine W.eq he0 ?_
  have hl : lv_has ls 3 [(0, .ref (ad 5)), (1, .int p0), (2, .int p1)] := hl
  unfold fX3_linkAhead at hf
  suffices hG : ∀ (H : Heap) (locs : List Loc), va_P D vwCl (wX cy ad S) H → va_S A s.heap H locs → W p l e (headSpec wsX3_linkAhead { frames := 3, cells := 0, slots := 0, locals := 63 }).room s m args below meth c H locs 0 0 (MQ below (QcI D A r (wX cy ad S)) args s 0 0 A) (F0 m 0 ls []) by exact hG s.heap [] hP va_S.rf
  clear hP hS
  intro H locs hP hS
  refine lv_aload_n hx hb dX3_linkAhead_0 rfl (lv_at hl 0 rfl) ?_
  refine lv_iload_n hx hb dX3_linkAhead_1 rfl (lv_at hl 1 rfl) ?_
  refine lv_iconst (v := 1) hx hb dX3_linkAhead_2 (by decide) ?_
  refine lv_isub hx hb dX3_linkAhead_3 ?_
  obtain ⟨r5, h6, hf⟩ := ob1_some hf
  refine kVi (As := [.int (p0 - 1)]) (rest := []) ⟨hx, hb, hml, hown, hts⟩ (okX3_speaksAt l D cy ad A hD (p0 - 1) S r5 h6) (cwV 1 hts gX3_linkAhead_X3_speaksAt rfl rfl rfl (by decide +kernel) ⟨Nat.le_of_ble_eq_true rfl, Nat.le_of_ble_eq_true rfl⟩) hK hP hS (va_recv hK.1 hP (ci := 3) (q := (RX3, TX3, 3)) rfl (atX5 cy ad S)) rfl hl.1 rfl (Nat.le_of_ble_eq_true rfl) dX3_linkAhead_4 (fun H locs hP hS => ?_)
  refine lv_if_eq (tgt := 18) hx hb dX3_linkAhead_7 (by decide) (fun c7 => ?_) (fun c7 => ?_)
  · have hf := (if_pos c7).symm.trans hf
    refine lv_iconst (v := 0) hx hb dX3_linkAhead_18 (by decide) ?_
    have he := Option.some.inj hf
    exact rI hx hb hr hP hS he hlocks dX3_linkAhead_19
  · have hf := (if_neg c7).symm.trans hf
    refine lv_aload_n hx hb dX3_linkAhead_10 rfl (lv_at hl 0 rfl) ?_
    refine lv_iload_n hx hb dX3_linkAhead_11 rfl (lv_at hl 1 rfl) ?_
    obtain ⟨r8, h9, hf⟩ := ob1_some hf
    refine kVi (As := [.int p0]) (rest := []) ⟨hx, hb, hml, hown, hts⟩ (okX3_speaksAt l D cy ad A hD p0 S r8 h9) (cwV 1 hts gX3_linkAhead_X3_speaksAt rfl rfl rfl (by decide +kernel) ⟨Nat.le_of_ble_eq_true rfl, Nat.le_of_ble_eq_true rfl⟩) hK hP hS (va_recv hK.1 hP (ci := 3) (q := (RX3, TX3, 3)) rfl (atX5 cy ad S)) rfl hl.1 rfl (Nat.le_of_ble_eq_true rfl) dX3_linkAhead_12 (fun H locs hP hS => ?_)
    refine lv_if_ne (tgt := 20) hx hb dX3_linkAhead_15 (by decide) (fun c10 => ?_) (fun c10 => ?_)
    · have hf := (if_neg c10).symm.trans hf
      refine lv_aload_n hx hb dX3_linkAhead_20 rfl (lv_at hl 0 rfl) ?_
      refine lv_iload_n hx hb dX3_linkAhead_21 rfl (lv_at hl 1 rfl) ?_
      obtain ⟨r11, h12, hf⟩ := ob1_some hf
      refine kVr (As := [.int p0]) (rest := []) ⟨hx, hb, hml, hown, hts⟩ (okX3_paragraphAt l D cy ad A hD p0 S r11 h12) (cwV 1 hts gX3_linkAhead_X3_paragraphAt rfl rfl rfl (by decide +kernel) ⟨Nat.le_of_ble_eq_true rfl, Nat.le_of_ble_eq_true rfl⟩) hK hP hS (va_recv hK.1 hP (ci := 3) (q := (RX3, TX3, 3)) rfl (atX5 cy ad S)) rfl hl.1 rfl (Nat.le_of_ble_eq_true rfl) dX3_linkAhead_22 (fun H locs hP hS => ?_)
      obtain ⟨r13, h14, hf⟩ := ob1_some hf
      refine kVi (As := []) (rest := []) ⟨hx, hb, hml, hown, hts⟩ (okX1_goesOn l D cy ad A hD r11 S r13 h14) (cwV 0 hts gX3_linkAhead_X1_goesOn rfl rfl rfl (by decide +kernel) ⟨Nat.le_of_ble_eq_true rfl, Nat.le_of_ble_eq_true rfl⟩) hK hP hS (va_recv hK.1 hP (ci := 1) (q := (RX1, TX1, 14)) rfl (atP0 cy ad S r11 (ck_no h14).1)) rfl hl.1 rfl (Nat.le_of_ble_eq_true rfl) dX3_linkAhead_25 (fun H locs hP hS => ?_)
      refine lv_if_eq (tgt := 33) hx hb dX3_linkAhead_28 (by decide) (fun c15 => ?_) (fun c15 => ?_)
      · have hf := (if_pos c15).symm.trans hf
        refine lv_iload_n hx hb dX3_linkAhead_33 rfl (lv_at hl 2 rfl) ?_
        refine lv_bipush (v := 8) hx hb dX3_linkAhead_34 (by decide) ?_
        refine lv_iand hx hb dX3_linkAhead_36 ?_
        refine lv_if_eq (tgt := 44) hx hb dX3_linkAhead_37 (by decide) (fun c16 => ?_) (fun c16 => ?_)
        · have hf := (if_pos c16).symm.trans hf
          refine lv_iconst (v := 0) hx hb dX3_linkAhead_44 (by decide) ?_
          have he := Option.some.inj hf
          exact rI hx hb hr hP hS he hlocks dX3_linkAhead_45
        · have hf := (if_neg c16).symm.trans hf
          refine lv_iconst (v := 2) hx hb dX3_linkAhead_40 (by decide) ?_
          refine lv_goto (tgt := 45) hx hb dX3_linkAhead_41 (by decide) ?_
          have he := Option.some.inj hf
          exact rI hx hb hr hP hS he hlocks dX3_linkAhead_45
      · have hf := (if_neg c15).symm.trans hf
        refine lv_iconst (v := 1) hx hb dX3_linkAhead_31 (by decide) ?_
        have he := Option.some.inj hf
        exact rI hx hb hr hP hS he hlocks dX3_linkAhead_32
    · have hf := (if_pos c10).symm.trans hf
      refine lv_iconst (v := 0) hx hb dX3_linkAhead_18 (by decide) ?_
      have he := Option.some.inj hf
      exact rI hx hb hr hP hS he hlocks dX3_linkAhead_19

def fX0_append (p0 : Bool) (p1 : Int32) (p2 : Int32) (S : XS) : Option XS := (if (bi (fX5_isWithin (xi S 5) 16)) = 0 then (some S) else (ck (xi S 5) 16 (bnd (xaW S 8 (xi S 5).toNatClampNeg (bi p0)) (fun S11 => (ck (xi S11 5) 16 (bnd (xaW S11 9 (xi S11 5).toNatClampNeg p1) (fun S13 => (ck (xi S13 5) 16 (bnd (xaW S13 10 (xi S13 5).toNatClampNeg p2) (fun S15 => (bnd (xiW S15 5 ((xi S15 5) + 1)) (fun S17 => (some S17)))))))))))))
set_option maxHeartbeats 4000000 in
set_option maxRecDepth 100000 in
theorem okX0_append (l : Launch) (D : va_G) (cy : Nat → ClassId) (ad : Nat → Nat) (A : Nat → Prop) (hD : ∀ S, va_D A (wX cy ad S)) (p0 : Bool) (p1 : Int32) (p2 : Int32) (S : XS) (S' : XS) (hf : fX0_append p0 p1 p2 S = some S') : MV l yX0_append wsX0_append { frames := 1, cells := 0, slots := 0, locals := 21 } D cy A (wX cy ad S) [.ref (ad 7), .int (bi p0), .int p1, .int p2] (wX cy ad S') := by
  refine Met.ofW (cc := cX0_append) (maxL := 4) (ret := none) (by decide) rfl ?_
  intro p e s m args below meth c s₁ B hml hv
  obtain ⟨ha, hP, hK⟩ := hv
  have hx := B.exec
  have hb := B.bytes
  have hr := B.returns
  have hts := atoms_spec (ws := wsX0_append) B.pre
  have hown : s.vm.findClass RX0 = some m.cls := findClass_of_methodNamed B.named
  have hlocks := B.notSynchronized
  have hS : va_S A s.heap s.heap [] := va_S.rf
  obtain ⟨ls, hl, he0⟩ := ent (m := m) ha (n := 4) (Nat.le_of_ble_eq_true rfl)
  refine W.eq he0 ?_
  have hl : lv_has ls 4 [(0, .ref (ad 7)), (1, .int (bi p0)), (2, .int p1), (3, .int p2)] := hl
  unfold fX0_append at hf
  suffices hG : ∀ (H : Heap) (locs : List Loc), va_P D vwCl (wX cy ad S) H → va_S A s.heap H locs → W p l e (headSpec wsX0_append { frames := 1, cells := 0, slots := 0, locals := 21 }).room s m args below meth c H locs 0 0 (MQ below (QcV D A (wX cy ad S')) args s 0 0 A) (F0 m 0 ls []) by exact hG s.heap [] hP va_S.rf
  clear hP hS
  intro H locs hP hS
  refine lv_aload_n hx hb dX0_append_0 rfl (lv_at hl 0 rfl) ?_
  refine gfX0_8 hx hb hts (fun _ h => List.mem_cons_of_mem _ (List.mem_append_right _ h)) hown hK hP (hts (Cond.fieldLink RX0 38 "WhoSpeaks$Chain" "count" "I") (List.mem_of_getElem? (i := 1) rfl)) dX0_append_1 ?_
  refine lv_bipush (v := 16) hx hb dX0_append_4 (by decide) ?_
  refine kNi (As := [.int (xi S 5), .int 16]) (rest := []) ⟨hx, hb, hml, hown, hts⟩ (okX5_isWithin l D cy A (wX cy ad S) (xi S 5) 16 _ rfl) ⟨va_cnB 2 hts gX0_append_X5_isWithin_n42 rfl rfl rfl hK.2.2.2.2.1 (hts (Cond.initialized RX5) (List.mem_of_getElem? (i := 6) rfl)) (by decide +kernel) ⟨Nat.le_of_ble_eq_true rfl, Nat.le_of_ble_eq_true rfl⟩, (hts (Cond.static yX5_isWithin) (List.mem_of_getElem? (i := 5) rfl)), trivial⟩ hK hP hS rfl hl.1 rfl (Nat.le_of_ble_eq_true rfl) dX0_append_6 (fun H locs hP hS => ?_)
  refine lv_if_eq (tgt := 52) hx hb dX0_append_9 (by decide) (fun c10 => ?_) (fun c10 => ?_)
  · have hf := (if_pos c10).symm.trans hf
    cases hf
    exact rV hx hb hr hP hS hlocks dX0_append_52
  · have hf := (if_neg c10).symm.trans hf
    refine lv_aload_n hx hb dX0_append_12 rfl (lv_at hl 0 rfl) ?_
    refine gfX0_0 hx hb hts (fun _ h => List.mem_cons_of_mem _ (List.mem_append_right _ h)) hown hK hP (hts (Cond.fieldLink RX0 9 "WhoSpeaks$Chain" "speaking" "[Z") (List.mem_of_getElem? (i := 2) rfl)) dX0_append_13 ?_
    refine lv_aload_n hx hb dX0_append_16 rfl (lv_at hl 0 rfl) ?_
    refine gfX0_8 hx hb hts (fun _ h => List.mem_cons_of_mem _ (List.mem_append_right _ h)) hown hK hP (hts (Cond.fieldLink RX0 38 "WhoSpeaks$Chain" "count" "I") (List.mem_of_getElem? (i := 1) rfl)) dX0_append_17 ?_
    refine lv_iload_n hx hb dX0_append_20 rfl (lv_at hl 1 rfl) ?_
    obtain ⟨c12, hf⟩ := ck_some hf
    refine asX8 (v := (bi p0)) (bi_vp p0) hx hb hK hP hD hS c12 dX0_append_21 (fun S11 eS11 H locs hP hS => ?_)
    have hf := bnd_of eS11 hf
    refine lv_aload_n hx hb dX0_append_22 rfl (lv_at hl 0 rfl) ?_
    refine gfX0_1 hx hb hts (fun _ h => List.mem_cons_of_mem _ (List.mem_append_right _ h)) hown hK hP (hts (Cond.fieldLink RX0 15 "WhoSpeaks$Chain" "owns" "[I") (List.mem_of_getElem? (i := 3) rfl)) dX0_append_23 ?_
    refine lv_aload_n hx hb dX0_append_26 rfl (lv_at hl 0 rfl) ?_
    refine gfX0_8 hx hb hts (fun _ h => List.mem_cons_of_mem _ (List.mem_append_right _ h)) hown hK hP (hts (Cond.fieldLink RX0 38 "WhoSpeaks$Chain" "count" "I") (List.mem_of_getElem? (i := 1) rfl)) dX0_append_27 ?_
    refine lv_iload_n hx hb dX0_append_30 rfl (lv_at hl 2 rfl) ?_
    obtain ⟨c14, hf⟩ := ck_some hf
    refine asX9 (v := p1) hx hb hK hP hD hS c14 dX0_append_31 (fun S13 eS13 H locs hP hS => ?_)
    have hf := bnd_of eS13 hf
    refine lv_aload_n hx hb dX0_append_32 rfl (lv_at hl 0 rfl) ?_
    refine gfX0_2 hx hb hts (fun _ h => List.mem_cons_of_mem _ (List.mem_append_right _ h)) hown hK hP (hts (Cond.fieldLink RX0 19 "WhoSpeaks$Chain" "links" "[I") (List.mem_of_getElem? (i := 4) rfl)) dX0_append_33 ?_
    refine lv_aload_n hx hb dX0_append_36 rfl (lv_at hl 0 rfl) ?_
    refine gfX0_8 hx hb hts (fun _ h => List.mem_cons_of_mem _ (List.mem_append_right _ h)) hown hK hP (hts (Cond.fieldLink RX0 38 "WhoSpeaks$Chain" "count" "I") (List.mem_of_getElem? (i := 1) rfl)) dX0_append_37 ?_
    refine lv_iload_n hx hb dX0_append_40 rfl (lv_at hl 3 rfl) ?_
    obtain ⟨c16, hf⟩ := ck_some hf
    refine asX10 (v := p2) hx hb hK hP hD hS c16 dX0_append_41 (fun S15 eS15 H locs hP hS => ?_)
    have hf := bnd_of eS15 hf
    refine lv_aload_n hx hb dX0_append_42 rfl (lv_at hl 0 rfl) ?_
    refine lv_dup hx hb dX0_append_43 rfl ?_
    refine gfX0_8 hx hb hts (fun _ h => List.mem_cons_of_mem _ (List.mem_append_right _ h)) hown hK hP (hts (Cond.fieldLink RX0 38 "WhoSpeaks$Chain" "count" "I") (List.mem_of_getElem? (i := 1) rfl)) dX0_append_44 ?_
    refine lv_iconst (v := 1) hx hb dX0_append_47 (by decide) ?_
    refine lv_iadd hx hb dX0_append_48 ?_
    refine pfX0_8 (v := ((xi S15 5) + 1)) hx hb hts (fun _ h => List.mem_cons_of_mem _ (List.mem_append_right _ h)) hown hK hP hD hS (hts (Cond.fieldLink RX0 38 "WhoSpeaks$Chain" "count" "I") (List.mem_of_getElem? (i := 1) rfl)) dX0_append_49 (fun S17 eS17 H locs hP hS => ?_)
    have hf := bnd_of eS17 hf
    cases hf
    exact rV hx hb hr hP hS hlocks dX0_append_52

def bX5_fillChain_54 (k9 : Int32 × XS → Option XS) (x1 : Int32) (x3 : Bool) (s0 : Int32) (S : XS) : Option XS := (ob1 (fX3_linkAhead x1 (xi S 1) S) (fun r11 => (ob1 (fX0_append x3 s0 r11 S) (fun S14 => (k9 ((x1 + 1), S14))))))
def bX5_fillChain_9  (k9 : Int32 × XS → Option XS) (x1 : Int32) (S : XS) : Option XS := (if (fX3_length  S) ≤ x1 then (some S) else (ob1 (fX3_paragraphAt x1 S) (fun r17 => (ob1 (fX1_speaks r17 S) (fun r19 => (if (bi r19) = 0 then (bX5_fillChain_54 k9 (x1) (r19) (0) S) else (ob1 (fX1_ownSet r17 (xi S 1) S) (fun r22 => (bX5_fillChain_54 k9 (x1) (r19) (r22) S)))))))))
def fX5_fillChain  (S : XS) : Option XS := (ob1 (fX0_clear  S) (fun S25 => (lp (fun k q => bX5_fillChain_9  k q.1 q.2) FU (0, S25))))
set_option maxHeartbeats 4000000 in
set_option maxRecDepth 100000 in
theorem okX5_fillChain (l : Launch) (D : va_G) (cy : Nat → ClassId) (ad : Nat → Nat) (A : Nat → Prop) (hD : ∀ S, va_D A (wX cy ad S))  (S : XS) (S' : XS) (hf : fX5_fillChain  S = some S') : MV l yX5_fillChain wsX5_fillChain { frames := 4, cells := 0, slots := 0, locals := 85 } D cy A (wX cy ad S) [.ref (ad 0)] (wX cy ad S') := by
  refine Met.ofW (cc := cX5_fillChain) (maxL := 5) (ret := none) (by decide) rfl ?_
  intro p e s m args below meth c s₁ B hml hv
  obtain ⟨ha, hP, hK⟩ := hv
  have hx := B.exec
  have hb := B.bytes
  have hr := B.returns
  have hts := atoms_spec (ws := wsX5_fillChain) B.pre
  have hown : s.vm.findClass RX5 = some m.cls := findClass_of_methodNamed B.named
  have hlocks := B.notSynchronized
  have hS : va_S A s.heap s.heap [] := va_S.rf
  obtain ⟨ls, hl, he0⟩ := ent (m := m) ha (n := 5) (Nat.le_of_ble_eq_true rfl)
  refine W.eq he0 ?_
  have hl : lv_has ls 5 [(0, .ref (ad 0))] := hl
  have K54 : ∀ (k9 : Int32 × XS → Option XS), (∀ (x1 : Int32) (S : XS) (H : Heap) (locs : List Loc) (ls : Array Slot), va_P D vwCl (wX cy ad S) H → va_S A s.heap H locs → lv_has ls 5 [(0, .ref (ad 0)), (1, .int x1)] → k9 (x1, S) = some S' → W p l e (headSpec wsX5_fillChain { frames := 4, cells := 0, slots := 0, locals := 85 }).room s m args below meth c H locs 0 0 (MQ below (QcV D A (wX cy ad S')) args s 0 0 A) (F0 m 9 ls [])) → ∀ (x1 : Int32) (x3 : Bool) (s0 : Int32) (S : XS) (H : Heap) (locs : List Loc) (ls : Array Slot), va_P D vwCl (wX cy ad S) H → va_S A s.heap H locs → lv_has ls 5 [(0, .ref (ad 0)), (1, .int x1), (3, .int (bi x3))] → bX5_fillChain_54 k9 x1 x3 s0 S = some S' → W p l e (headSpec wsX5_fillChain { frames := 4, cells := 0, slots := 0, locals := 85 }).room s m args below meth c H locs 0 0 (MQ below (QcV D A (wX cy ad S')) args s 0 0 A) (F0 m 54 ls [.int s0]) := by
    intro k9 ih9 x1 x3 s0 S H locs ls hP hS hl hf
    unfold bX5_fillChain_54 at hf
    refine lv_istore (lv' := [(4, .int s0), (0, .ref (ad 0)), (1, .int x1), (3, .int (bi x3))]) hx hb dX5_fillChain_54 hl (by decide) rfl (fun ls hl => ?_)
    refine lv_aload_n hx hb dX5_fillChain_56 rfl (lv_at hl 1 rfl) ?_
    refine gfX5_3 hx hb hts (fun _ h => List.mem_cons_of_mem _ (List.mem_append_left _ (List.mem_append_left _ (List.mem_append_left _ (List.mem_append_left _ (List.mem_append_right _ h)))))) hown hK hP (hts (Cond.fieldLink RX5 33 "WhoSpeaks" "chain" "LWhoSpeaks$Chain;") (List.mem_of_getElem? (i := 1) rfl)) dX5_fillChain_57 ?_
    refine lv_iload_n hx hb dX5_fillChain_60 rfl (lv_at hl 3 rfl) ?_
    refine lv_iload hx hb dX5_fillChain_61 (lv_at hl 0 rfl) ?_
    refine lv_aload_n hx hb dX5_fillChain_63 rfl (lv_at hl 1 rfl) ?_
    refine gfX5_2 hx hb hts (fun _ h => List.mem_cons_of_mem _ (List.mem_append_left _ (List.mem_append_left _ (List.mem_append_left _ (List.mem_append_left _ (List.mem_append_right _ h)))))) hown hK hP (hts (Cond.fieldLink RX5 26 "WhoSpeaks" "story" "LWhoSpeaks$Story;") (List.mem_of_getElem? (i := 2) rfl)) dX5_fillChain_64 ?_
    refine lv_iload_n hx hb dX5_fillChain_67 rfl (lv_at hl 2 rfl) ?_
    refine lv_aload_n hx hb dX5_fillChain_68 rfl (lv_at hl 1 rfl) ?_
    refine gfX5_8 hx hb hts (fun _ h => List.mem_cons_of_mem _ (List.mem_append_left _ (List.mem_append_left _ (List.mem_append_left _ (List.mem_append_left _ (List.mem_append_right _ h)))))) hown hK hP (hts (Cond.fieldLink RX5 51 "WhoSpeaks" "ruleSet" "I") (List.mem_of_getElem? (i := 4) rfl)) dX5_fillChain_69 ?_
    obtain ⟨r11, h12, hf⟩ := ob1_some hf
    refine kVi (As := [.int x1, .int (xi S 1)]) (rest := [.int s0, .int (bi x3), .ref (ad 7)]) ⟨hx, hb, hml, hown, hts⟩ (okX3_linkAhead l D cy ad A hD x1 (xi S 1) S r11 h12) (cwV 2 hts gX5_fillChain_X3_linkAhead rfl rfl rfl (by decide +kernel) ⟨Nat.le_of_ble_eq_true rfl, Nat.le_of_ble_eq_true rfl⟩) hK hP hS (va_recv hK.1 hP (ci := 3) (q := (RX3, TX3, 3)) rfl (atX5 cy ad S)) rfl hl.1 rfl (Nat.le_of_ble_eq_true rfl) dX5_fillChain_72 (fun H locs hP hS => ?_)
    obtain ⟨S14, h13, hf⟩ := ob1_some hf
    refine kVv (As := [.int (bi x3), .int s0, .int r11]) (rest := []) ⟨hx, hb, hml, hown, hts⟩ (okX0_append l D cy ad A hD x3 s0 r11 S S14 h13) (cwV 3 hts gX5_fillChain_X0_append rfl rfl rfl (by decide +kernel) ⟨Nat.le_of_ble_eq_true rfl, Nat.le_of_ble_eq_true rfl⟩) hK hP hS (va_recv hK.1 hP (ci := 0) (q := (RX0, TX0, 9)) rfl (atX7 cy ad S)) rfl hl.1 rfl (Nat.le_of_ble_eq_true rfl) dX5_fillChain_75 (fun H locs hP hS => ?_)
    refine lv_iinc (v := (x1 + 1)) (lv' := [(1, .int (x1 + 1)), (4, .int s0), (0, .ref (ad 0)), (3, .int (bi x3))]) hx hb dX5_fillChain_78 hl (k := 2) rfl rfl (by decide) rfl (fun ls hl => ?_)
    refine lv_goto (tgt := 9) hx hb dX5_fillChain_81 (by decide) ?_
    exact ih9 ((x1 + 1)) S14 H locs ls hP hS (lv_sub hl [2, 0] rfl) hf
  have K9 : ∀ (n : Nat), ∀ (x1 : Int32) (S : XS) (H : Heap) (locs : List Loc) (ls : Array Slot), va_P D vwCl (wX cy ad S) H → va_S A s.heap H locs → lv_has ls 5 [(0, .ref (ad 0)), (1, .int x1)] → lp (fun k q => bX5_fillChain_9  k q.1 q.2) n (x1, S) = some S' → W p l e (headSpec wsX5_fillChain { frames := 4, cells := 0, slots := 0, locals := 85 }).room s m args below meth c H locs 0 0 (MQ below (QcV D A (wX cy ad S')) args s 0 0 A) (F0 m 9 ls []) := by
    intro  n
    induction n with
    | zero =>
      intro x1 S H locs ls hP hS hl hf
      cases hf
    | succ n ih9 =>
      intro x1 S H locs ls hP hS hl hf
      have hf : bX5_fillChain_9  (lp (fun k q => bX5_fillChain_9  k q.1 q.2) n) x1 S = some S' := hf
      generalize lp (fun k q => bX5_fillChain_9  k q.1 q.2) n = k9 at hf ih9
      unfold bX5_fillChain_9 at hf
      refine lv_iload_n hx hb dX5_fillChain_9 rfl (lv_at hl 1 rfl) ?_
      refine lv_aload_n hx hb dX5_fillChain_10 rfl (lv_at hl 0 rfl) ?_
      refine gfX5_2 hx hb hts (fun _ h => List.mem_cons_of_mem _ (List.mem_append_left _ (List.mem_append_left _ (List.mem_append_left _ (List.mem_append_left _ (List.mem_append_right _ h)))))) hown hK hP (hts (Cond.fieldLink RX5 26 "WhoSpeaks" "story" "LWhoSpeaks$Story;") (List.mem_of_getElem? (i := 2) rfl)) dX5_fillChain_11 ?_
      refine kVi (As := []) (rest := [.int x1]) ⟨hx, hb, hml, hown, hts⟩ (okX3_length l D cy ad A hD  S _ rfl) (cwV 0 hts gX5_fillChain_X3_length rfl rfl rfl (by decide +kernel) ⟨Nat.le_of_ble_eq_true rfl, Nat.le_of_ble_eq_true rfl⟩) hK hP hS (va_recv hK.1 hP (ci := 3) (q := (RX3, TX3, 3)) rfl (atX5 cy ad S)) rfl hl.1 rfl (Nat.le_of_ble_eq_true rfl) dX5_fillChain_14 (fun H locs hP hS => ?_)
      refine lv_icmp_ge (tgt := 84) hx hb dX5_fillChain_17 (by decide) (fun c16 => ?_) (fun c16 => ?_)
      · have hf := (if_pos c16).symm.trans hf
        cases hf
        exact rV hx hb hr hP hS hlocks dX5_fillChain_84
      · have hf := (if_neg c16).symm.trans hf
        refine lv_aload_n hx hb dX5_fillChain_20 rfl (lv_at hl 0 rfl) ?_
        refine gfX5_2 hx hb hts (fun _ h => List.mem_cons_of_mem _ (List.mem_append_left _ (List.mem_append_left _ (List.mem_append_left _ (List.mem_append_left _ (List.mem_append_right _ h)))))) hown hK hP (hts (Cond.fieldLink RX5 26 "WhoSpeaks" "story" "LWhoSpeaks$Story;") (List.mem_of_getElem? (i := 2) rfl)) dX5_fillChain_21 ?_
        refine lv_iload_n hx hb dX5_fillChain_24 rfl (lv_at hl 1 rfl) ?_
        obtain ⟨r17, h18, hf⟩ := ob1_some hf
        refine kVr (As := [.int x1]) (rest := []) ⟨hx, hb, hml, hown, hts⟩ (okX3_paragraphAt l D cy ad A hD x1 S r17 h18) (cwV 1 hts gX5_fillChain_X3_paragraphAt rfl rfl rfl (by decide +kernel) ⟨Nat.le_of_ble_eq_true rfl, Nat.le_of_ble_eq_true rfl⟩) hK hP hS (va_recv hK.1 hP (ci := 3) (q := (RX3, TX3, 3)) rfl (atX5 cy ad S)) rfl hl.1 rfl (Nat.le_of_ble_eq_true rfl) dX5_fillChain_25 (fun H locs hP hS => ?_)
        refine lv_astore_n (lv' := [(2, .ref (ad (19 + 3 * r17))), (0, .ref (ad 0)), (1, .int x1)]) hx hb dX5_fillChain_28 rfl hl (by decide) rfl (fun ls hl => ?_)
        refine lv_aload_n hx hb dX5_fillChain_29 rfl (lv_at hl 0 rfl) ?_
        obtain ⟨r19, h20, hf⟩ := ob1_some hf
        refine kVi (As := []) (rest := []) ⟨hx, hb, hml, hown, hts⟩ (okX1_speaks l D cy ad A hD r17 S r19 h20) (cwV 0 hts gX5_fillChain_X1_speaks rfl rfl rfl (by decide +kernel) ⟨Nat.le_of_ble_eq_true rfl, Nat.le_of_ble_eq_true rfl⟩) hK hP hS (va_recv hK.1 hP (ci := 1) (q := (RX1, TX1, 14)) rfl (atP0 cy ad S r17 (ck_no h20).1)) rfl hl.1 rfl (Nat.le_of_ble_eq_true rfl) dX5_fillChain_30 (fun H locs hP hS => ?_)
        refine lv_istore_n (lv' := [(3, .int (bi r19)), (2, .ref (ad (19 + 3 * r17))), (0, .ref (ad 0)), (1, .int x1)]) hx hb dX5_fillChain_33 rfl hl (by decide) rfl (fun ls hl => ?_)
        refine lv_iload_n hx hb dX5_fillChain_34 rfl (lv_at hl 0 rfl) ?_
        refine lv_if_eq (tgt := 53) hx hb dX5_fillChain_35 (by decide) (fun c21 => ?_) (fun c21 => ?_)
        · have hf := (if_pos c21).symm.trans hf
          refine lv_iconst (v := 0) hx hb dX5_fillChain_53 (by decide) ?_
          exact K54 k9 ih9 (x1) (r19) (0) S H locs ls hP hS (lv_sub hl [2, 3, 0] rfl) hf
        · have hf := (if_neg c21).symm.trans hf
          refine lv_aload_n hx hb dX5_fillChain_38 rfl (lv_at hl 1 rfl) ?_
          refine lv_aload_n hx hb dX5_fillChain_39 rfl (lv_at hl 2 rfl) ?_
          refine gfX5_0 hx hb hts (fun _ h => List.mem_cons_of_mem _ (List.mem_append_left _ (List.mem_append_left _ (List.mem_append_left _ (List.mem_append_left _ (List.mem_append_right _ h)))))) hown hK hP (hts (Cond.fieldLink RX5 12 "WhoSpeaks" "people" "LWhoSpeaks$People;") (List.mem_of_getElem? (i := 3) rfl)) dX5_fillChain_40 ?_
          refine lv_aload_n hx hb dX5_fillChain_43 rfl (lv_at hl 2 rfl) ?_
          refine gfX5_8 hx hb hts (fun _ h => List.mem_cons_of_mem _ (List.mem_append_left _ (List.mem_append_left _ (List.mem_append_left _ (List.mem_append_left _ (List.mem_append_right _ h)))))) hown hK hP (hts (Cond.fieldLink RX5 51 "WhoSpeaks" "ruleSet" "I") (List.mem_of_getElem? (i := 4) rfl)) dX5_fillChain_44 ?_
          obtain ⟨r22, h23, hf⟩ := ob1_some hf
          refine kVi (As := [.ref (ad 1), .int (xi S 1)]) (rest := []) ⟨hx, hb, hml, hown, hts⟩ (okX1_ownSet l D cy ad A hD r17 (xi S 1) S r22 h23) (cwV 2 hts gX5_fillChain_X1_ownSet rfl rfl rfl (by decide +kernel) ⟨Nat.le_of_ble_eq_true rfl, Nat.le_of_ble_eq_true rfl⟩) hK hP hS (va_recv hK.1 hP (ci := 1) (q := (RX1, TX1, 14)) rfl (atP0 cy ad S r17 (ck_no h23).1)) rfl hl.1 rfl (Nat.le_of_ble_eq_true rfl) dX5_fillChain_47 (fun H locs hP hS => ?_)
          refine lv_goto (tgt := 54) hx hb dX5_fillChain_50 (by decide) ?_
          exact K54 k9 ih9 (x1) (r19) (r22) S H locs ls hP hS (lv_sub hl [2, 3, 0] rfl) hf
  unfold fX5_fillChain at hf
  suffices hG : ∀ (H : Heap) (locs : List Loc), va_P D vwCl (wX cy ad S) H → va_S A s.heap H locs → W p l e (headSpec wsX5_fillChain { frames := 4, cells := 0, slots := 0, locals := 85 }).room s m args below meth c H locs 0 0 (MQ below (QcV D A (wX cy ad S')) args s 0 0 A) (F0 m 0 ls []) by exact hG s.heap [] hP va_S.rf
  clear hP hS
  intro H locs hP hS
  refine lv_aload_n hx hb dX5_fillChain_0 rfl (lv_at hl 0 rfl) ?_
  refine gfX5_3 hx hb hts (fun _ h => List.mem_cons_of_mem _ (List.mem_append_left _ (List.mem_append_left _ (List.mem_append_left _ (List.mem_append_left _ (List.mem_append_right _ h)))))) hown hK hP (hts (Cond.fieldLink RX5 33 "WhoSpeaks" "chain" "LWhoSpeaks$Chain;") (List.mem_of_getElem? (i := 1) rfl)) dX5_fillChain_1 ?_
  obtain ⟨S25, h24, hf⟩ := ob1_some hf
  refine kVv (As := []) (rest := []) ⟨hx, hb, hml, hown, hts⟩ (okX0_clear l D cy ad A hD  S S25 h24) (cwV 0 hts gX5_fillChain_X0_clear rfl rfl rfl (by decide +kernel) ⟨Nat.le_of_ble_eq_true rfl, Nat.le_of_ble_eq_true rfl⟩) hK hP hS (va_recv hK.1 hP (ci := 0) (q := (RX0, TX0, 9)) rfl (atX7 cy ad S)) rfl hl.1 rfl (Nat.le_of_ble_eq_true rfl) dX5_fillChain_4 (fun H locs hP hS => ?_)
  refine lv_iconst (v := 0) hx hb dX5_fillChain_7 (by decide) ?_
  refine lv_istore_n (lv' := [(1, .int 0), (0, .ref (ad 0))]) hx hb dX5_fillChain_8 rfl hl (by decide) rfl (fun ls hl => ?_)
  exact K9  FU (0) S25 H locs ls hP hS (lv_sub hl [1, 0] rfl) hf

def fX0_holds (p0 : Int32) (S : XS) : Bool := (if (bi (fX5_isWithin p0 (xi S 5))) = 0 then false else (if 16 ≤ p0 then false else true))
set_option maxHeartbeats 4000000 in
set_option maxRecDepth 100000 in
theorem okX0_holds (l : Launch) (D : va_G) (cy : Nat → ClassId) (ad : Nat → Nat) (A : Nat → Prop) (hD : ∀ S, va_D A (wX cy ad S)) (p0 : Int32) (S : XS) (r : Bool) (hf : fX0_holds p0 S = r) : MI l yX0_holds wsX0_holds { frames := 1, cells := 0, slots := 0, locals := 21 } D cy A (wX cy ad S) [.ref (ad 7), .int p0] (bi r) (wX cy ad S) := by
  refine Met.ofW (cc := cX0_holds) (maxL := 2) (ret := (some .boolean)) (by decide) rfl ?_
  intro p e s m args below meth c s₁ B hml hv
  obtain ⟨ha, hP, hK⟩ := hv
  have hx := B.exec
  have hb := B.bytes
  have hr := B.returns
  have hts := atoms_spec (ws := wsX0_holds) B.pre
  have hown : s.vm.findClass RX0 = some m.cls := findClass_of_methodNamed B.named
  have hlocks := B.notSynchronized
  have hS : va_S A s.heap s.heap [] := va_S.rf
  obtain ⟨ls, hl, he0⟩ := ent (m := m) ha (n := 2) (Nat.le_of_ble_eq_true rfl)
  refine W.eq he0 ?_
  have hl : lv_has ls 2 [(0, .ref (ad 7)), (1, .int p0)] := hl
  unfold fX0_holds at hf
  suffices hG : ∀ (H : Heap) (locs : List Loc), va_P D vwCl (wX cy ad S) H → va_S A s.heap H locs → W p l e (headSpec wsX0_holds { frames := 1, cells := 0, slots := 0, locals := 21 }).room s m args below meth c H locs 0 0 (MQ below (QcI D A (bi r) (wX cy ad S)) args s 0 0 A) (F0 m 0 ls []) by exact hG s.heap [] hP va_S.rf
  clear hP hS
  intro H locs hP hS
  refine lv_iload_n hx hb dX0_holds_0 rfl (lv_at hl 1 rfl) ?_
  refine lv_aload_n hx hb dX0_holds_1 rfl (lv_at hl 0 rfl) ?_
  refine gfX0_8 hx hb hts (fun _ h => List.mem_cons_of_mem _ (List.mem_append_right _ h)) hown hK hP (hts (Cond.fieldLink RX0 38 "WhoSpeaks$Chain" "count" "I") (List.mem_of_getElem? (i := 1) rfl)) dX0_holds_2 ?_
  refine kNi (As := [.int p0, .int (xi S 5)]) (rest := []) ⟨hx, hb, hml, hown, hts⟩ (okX5_isWithin l D cy A (wX cy ad S) p0 (xi S 5) _ rfl) ⟨va_cnB 2 hts gX0_holds_X5_isWithin_n42 rfl rfl rfl hK.2.2.2.2.1 (hts (Cond.initialized RX5) (List.mem_of_getElem? (i := 3) rfl)) (by decide +kernel) ⟨Nat.le_of_ble_eq_true rfl, Nat.le_of_ble_eq_true rfl⟩, (hts (Cond.static yX5_isWithin) (List.mem_of_getElem? (i := 2) rfl)), trivial⟩ hK hP hS rfl hl.1 rfl (Nat.le_of_ble_eq_true rfl) dX0_holds_5 (fun H locs hP hS => ?_)
  refine lv_if_eq (tgt := 21) hx hb dX0_holds_8 (by decide) (fun c4 => ?_) (fun c4 => ?_)
  · have hf := (if_pos c4).symm.trans hf
    refine lv_iconst (v := 0) hx hb dX0_holds_21 (by decide) ?_
    have he := hf
    exact rZ hx hb hr (bi_nar false) hP hS (congrArg bi he) hlocks dX0_holds_22
  · have hf := (if_neg c4).symm.trans hf
    refine lv_iload_n hx hb dX0_holds_11 rfl (lv_at hl 1 rfl) ?_
    refine lv_bipush (v := 16) hx hb dX0_holds_12 (by decide) ?_
    refine lv_icmp_ge (tgt := 21) hx hb dX0_holds_14 (by decide) (fun c5 => ?_) (fun c5 => ?_)
    · have hf := (if_pos c5).symm.trans hf
      refine lv_iconst (v := 0) hx hb dX0_holds_21 (by decide) ?_
      have he := hf
      exact rZ hx hb hr (bi_nar false) hP hS (congrArg bi he) hlocks dX0_holds_22
    · have hf := (if_neg c5).symm.trans hf
      refine lv_iconst (v := 1) hx hb dX0_holds_17 (by decide) ?_
      refine lv_goto (tgt := 22) hx hb dX0_holds_18 (by decide) ?_
      have he := hf
      exact rZ hx hb hr (bi_nar true) hP hS (congrArg bi he) hlocks dX0_holds_22

def fX0_ownSet (p0 : Int32) (S : XS) : Option Int32 := (if (bi (fX0_holds p0 S)) = 0 then (some 0) else (ck p0 16 (some (xa S 9 p0.toNatClampNeg))))
set_option maxHeartbeats 4000000 in
set_option maxRecDepth 100000 in
theorem okX0_ownSet (l : Launch) (D : va_G) (cy : Nat → ClassId) (ad : Nat → Nat) (A : Nat → Prop) (hD : ∀ S, va_D A (wX cy ad S)) (p0 : Int32) (S : XS) (r : Int32) (hf : fX0_ownSet p0 S = some r) : MI l yX0_ownSet wsX0_ownSet { frames := 2, cells := 0, slots := 0, locals := 42 } D cy A (wX cy ad S) [.ref (ad 7), .int p0] r (wX cy ad S) := by
  refine Met.ofW (cc := cX0_ownSet) (maxL := 2) (ret := (some .int)) (by decide) rfl ?_
  intro p e s m args below meth c s₁ B hml hv
  obtain ⟨ha, hP, hK⟩ := hv
  have hx := B.exec
  have hb := B.bytes
  have hr := B.returns
  have hts := atoms_spec (ws := wsX0_ownSet) B.pre
  have hown : s.vm.findClass RX0 = some m.cls := findClass_of_methodNamed B.named
  have hlocks := B.notSynchronized
  have hS : va_S A s.heap s.heap [] := va_S.rf
  obtain ⟨ls, hl, he0⟩ := ent (m := m) ha (n := 2) (Nat.le_of_ble_eq_true rfl)
  refine W.eq he0 ?_
  have hl : lv_has ls 2 [(0, .ref (ad 7)), (1, .int p0)] := hl
  unfold fX0_ownSet at hf
  suffices hG : ∀ (H : Heap) (locs : List Loc), va_P D vwCl (wX cy ad S) H → va_S A s.heap H locs → W p l e (headSpec wsX0_ownSet { frames := 2, cells := 0, slots := 0, locals := 42 }).room s m args below meth c H locs 0 0 (MQ below (QcI D A r (wX cy ad S)) args s 0 0 A) (F0 m 0 ls []) by exact hG s.heap [] hP va_S.rf
  clear hP hS
  intro H locs hP hS
  refine lv_aload_n hx hb dX0_ownSet_0 rfl (lv_at hl 0 rfl) ?_
  refine lv_iload_n hx hb dX0_ownSet_1 rfl (lv_at hl 1 rfl) ?_
  refine kVi (As := [.int p0]) (rest := []) ⟨hx, hb, hml, hown, hts⟩ (okX0_holds l D cy ad A hD p0 S _ rfl) (cwV 1 hts gX0_ownSet_X0_holds rfl rfl rfl (by decide +kernel) ⟨Nat.le_of_ble_eq_true rfl, Nat.le_of_ble_eq_true rfl⟩) hK hP hS (va_recv hK.1 hP (ci := 0) (q := (RX0, TX0, 9)) rfl (atX7 cy ad S)) rfl hl.1 rfl (Nat.le_of_ble_eq_true rfl) dX0_ownSet_2 (fun H locs hP hS => ?_)
  refine lv_if_eq (tgt := 17) hx hb dX0_ownSet_5 (by decide) (fun c4 => ?_) (fun c4 => ?_)
  · have hf := (if_pos c4).symm.trans hf
    refine lv_iconst (v := 0) hx hb dX0_ownSet_17 (by decide) ?_
    have he := Option.some.inj hf
    exact rI hx hb hr hP hS he hlocks dX0_ownSet_18
  · have hf := (if_neg c4).symm.trans hf
    refine lv_aload_n hx hb dX0_ownSet_8 rfl (lv_at hl 0 rfl) ?_
    refine gfX0_1 hx hb hts (fun _ h => List.mem_cons_of_mem _ (List.mem_append_right _ h)) hown hK hP (hts (Cond.fieldLink RX0 15 "WhoSpeaks$Chain" "owns" "[I") (List.mem_of_getElem? (i := 1) rfl)) dX0_ownSet_9 ?_
    refine lv_iload_n hx hb dX0_ownSet_12 rfl (lv_at hl 1 rfl) ?_
    obtain ⟨c5, hf⟩ := ck_some hf
    refine alX9 hx hb hK hP c5 dX0_ownSet_13 ?_
    refine lv_goto (tgt := 18) hx hb dX0_ownSet_14 (by decide) ?_
    have he := Option.some.inj hf
    exact rI hx hb hr hP hS he hlocks dX0_ownSet_18

def bX0_ownSetsWith_4  (k4 : Int32 × Int32 × Int32 × XS → Option Int32) (x1 : Int32) (x2 : Int32) (x3 : Int32) (S : XS) : Option Int32 := (if (xi S 5) ≤ x3 then (some x2) else (ob1 (fX0_ownSet x3 S) (fun r8 => (if (r8 &&& (fX5_bitOf x1)) = 0 then (k4 (x1, x2, (x3 + 1), S)) else (k4 (x1, (x2 + 1), (x3 + 1), S))))))
def fX0_ownSetsWith (p0 : Int32) (S : XS) : Option Int32 := (lp (fun k q => bX0_ownSetsWith_4  k q.1 q.2.1 q.2.2.1 q.2.2.2) FU (p0, 0, 0, S))
set_option maxHeartbeats 4000000 in
set_option maxRecDepth 100000 in
theorem okX0_ownSetsWith (l : Launch) (D : va_G) (cy : Nat → ClassId) (ad : Nat → Nat) (A : Nat → Prop) (hD : ∀ S, va_D A (wX cy ad S)) (p0 : Int32) (S : XS) (r : Int32) (hf : fX0_ownSetsWith p0 S = some r) : MI l yX0_ownSetsWith wsX0_ownSetsWith { frames := 3, cells := 0, slots := 0, locals := 63 } D cy A (wX cy ad S) [.ref (ad 7), .int p0] r (wX cy ad S) := by
  refine Met.ofW (cc := cX0_ownSetsWith) (maxL := 4) (ret := (some .int)) (by decide) rfl ?_
  intro p e s m args below meth c s₁ B hml hv
  obtain ⟨ha, hP, hK⟩ := hv
  have hx := B.exec
  have hb := B.bytes
  have hr := B.returns
  have hts := atoms_spec (ws := wsX0_ownSetsWith) B.pre
  have hown : s.vm.findClass RX0 = some m.cls := findClass_of_methodNamed B.named
  have hlocks := B.notSynchronized
  have hS : va_S A s.heap s.heap [] := va_S.rf
  obtain ⟨ls, hl, he0⟩ := ent (m := m) ha (n := 4) (Nat.le_of_ble_eq_true rfl)
  refine W.eq he0 ?_
  have hl : lv_has ls 4 [(0, .ref (ad 7)), (1, .int p0)] := hl
  have K4 : ∀ (n : Nat), ∀ (x1 : Int32) (x2 : Int32) (x3 : Int32) (S : XS) (H : Heap) (locs : List Loc) (ls : Array Slot), va_P D vwCl (wX cy ad S) H → va_S A s.heap H locs → lv_has ls 4 [(0, .ref (ad 7)), (1, .int x1), (2, .int x2), (3, .int x3)] → lp (fun k q => bX0_ownSetsWith_4  k q.1 q.2.1 q.2.2.1 q.2.2.2) n (x1, x2, x3, S) = some r → W p l e (headSpec wsX0_ownSetsWith { frames := 3, cells := 0, slots := 0, locals := 63 }).room s m args below meth c H locs 0 0 (MQ below (QcI D A r (wX cy ad S)) args s 0 0 A) (F0 m 4 ls []) := by
    intro  n
    induction n with
    | zero =>
      intro x1 x2 x3 S H locs ls hP hS hl hf
      cases hf
    | succ n ih4 =>
      intro x1 x2 x3 S H locs ls hP hS hl hf
      have hf : bX0_ownSetsWith_4  (lp (fun k q => bX0_ownSetsWith_4  k q.1 q.2.1 q.2.2.1 q.2.2.2) n) x1 x2 x3 S = some r := hf
      generalize lp (fun k q => bX0_ownSetsWith_4  k q.1 q.2.1 q.2.2.1 q.2.2.2) n = k4 at hf ih4
      unfold bX0_ownSetsWith_4 at hf
      refine lv_iload_n hx hb dX0_ownSetsWith_4 rfl (lv_at hl 3 rfl) ?_
      refine lv_aload_n hx hb dX0_ownSetsWith_5 rfl (lv_at hl 0 rfl) ?_
      refine gfX0_8 hx hb hts (fun _ h => List.mem_cons_of_mem _ (List.mem_append_right _ h)) hown hK hP (hts (Cond.fieldLink RX0 38 "WhoSpeaks$Chain" "count" "I") (List.mem_of_getElem? (i := 1) rfl)) dX0_ownSetsWith_6 ?_
      refine lv_icmp_ge (tgt := 34) hx hb dX0_ownSetsWith_9 (by decide) (fun c7 => ?_) (fun c7 => ?_)
      · have hf := (if_pos c7).symm.trans hf
        refine lv_iload_n hx hb dX0_ownSetsWith_34 rfl (lv_at hl 2 rfl) ?_
        have he := Option.some.inj hf
        exact rI hx hb hr hP hS he hlocks dX0_ownSetsWith_35
      · have hf := (if_neg c7).symm.trans hf
        refine lv_aload_n hx hb dX0_ownSetsWith_12 rfl (lv_at hl 0 rfl) ?_
        refine lv_iload_n hx hb dX0_ownSetsWith_13 rfl (lv_at hl 3 rfl) ?_
        obtain ⟨r8, h9, hf⟩ := ob1_some hf
        refine kVi (As := [.int x3]) (rest := []) ⟨hx, hb, hml, hown, hts⟩ (okX0_ownSet l D cy ad A hD x3 S r8 h9) (cwV 1 hts gX0_ownSetsWith_X0_ownSet rfl rfl rfl (by decide +kernel) ⟨Nat.le_of_ble_eq_true rfl, Nat.le_of_ble_eq_true rfl⟩) hK hP hS (va_recv hK.1 hP (ci := 0) (q := (RX0, TX0, 9)) rfl (atX7 cy ad S)) rfl hl.1 rfl (Nat.le_of_ble_eq_true rfl) dX0_ownSetsWith_14 (fun H locs hP hS => ?_)
        refine lv_iload_n hx hb dX0_ownSetsWith_17 rfl (lv_at hl 1 rfl) ?_
        refine kNi (As := [.int x1]) (rest := [.int r8]) ⟨hx, hb, hml, hown, hts⟩ (okX5_bitOf l D cy A (wX cy ad S) x1 _ rfl) ⟨va_cnB 1 hts gX0_ownSetsWith_X5_bitOf_n54 rfl rfl rfl hK.2.2.2.2.2.1 (hts (Cond.initialized RX5) (List.mem_of_getElem? (i := 13) rfl)) (by decide +kernel) ⟨Nat.le_of_ble_eq_true rfl, Nat.le_of_ble_eq_true rfl⟩, (hts (Cond.static yX5_bitOf) (List.mem_of_getElem? (i := 15) rfl)), trivial⟩ hK hP hS rfl hl.1 rfl (Nat.le_of_ble_eq_true rfl) dX0_ownSetsWith_18 (fun H locs hP hS => ?_)
        refine lv_iand hx hb dX0_ownSetsWith_21 ?_
        refine lv_if_eq (tgt := 28) hx hb dX0_ownSetsWith_22 (by decide) (fun c11 => ?_) (fun c11 => ?_)
        · have hf := (if_pos c11).symm.trans hf
          refine lv_iinc (v := (x3 + 1)) (lv' := [(3, .int (x3 + 1)), (0, .ref (ad 7)), (1, .int x1), (2, .int x2)]) hx hb dX0_ownSetsWith_28 hl (k := 3) rfl rfl (by decide) rfl (fun ls hl => ?_)
          refine lv_goto (tgt := 4) hx hb dX0_ownSetsWith_31 (by decide) ?_
          exact ih4 (x1) (x2) ((x3 + 1)) S H locs ls hP hS (lv_sub hl [1, 2, 3, 0] rfl) hf
        · have hf := (if_neg c11).symm.trans hf
          refine lv_iinc (v := (x2 + 1)) (lv' := [(2, .int (x2 + 1)), (0, .ref (ad 7)), (1, .int x1), (3, .int x3)]) hx hb dX0_ownSetsWith_25 hl (k := 2) rfl rfl (by decide) rfl (fun ls hl => ?_)
          refine lv_iinc (v := (x3 + 1)) (lv' := [(3, .int (x3 + 1)), (2, .int (x2 + 1)), (0, .ref (ad 7)), (1, .int x1)]) hx hb dX0_ownSetsWith_28 hl (k := 3) rfl rfl (by decide) rfl (fun ls hl => ?_)
          refine lv_goto (tgt := 4) hx hb dX0_ownSetsWith_31 (by decide) ?_
          exact ih4 (x1) ((x2 + 1)) ((x3 + 1)) S H locs ls hP hS (lv_sub hl [2, 3, 1, 0] rfl) hf
  unfold fX0_ownSetsWith at hf
  suffices hG : ∀ (H : Heap) (locs : List Loc), va_P D vwCl (wX cy ad S) H → va_S A s.heap H locs → W p l e (headSpec wsX0_ownSetsWith { frames := 3, cells := 0, slots := 0, locals := 63 }).room s m args below meth c H locs 0 0 (MQ below (QcI D A r (wX cy ad S)) args s 0 0 A) (F0 m 0 ls []) by exact hG s.heap [] hP va_S.rf
  clear hP hS
  intro H locs hP hS
  refine lv_iconst (v := 0) hx hb dX0_ownSetsWith_0 (by decide) ?_
  refine lv_istore_n (lv' := [(2, .int 0), (0, .ref (ad 7)), (1, .int p0)]) hx hb dX0_ownSetsWith_1 rfl hl (by decide) rfl (fun ls hl => ?_)
  refine lv_iconst (v := 0) hx hb dX0_ownSetsWith_2 (by decide) ?_
  refine lv_istore_n (lv' := [(3, .int 0), (2, .int 0), (0, .ref (ad 7)), (1, .int p0)]) hx hb dX0_ownSetsWith_3 rfl hl (by decide) rfl (fun ls hl => ?_)
  exact K4  FU (p0) (0) (0) S H locs ls hP hS (lv_sub hl [2, 3, 1, 0] rfl) hf

def fX2_takeAway (p0 : Int32) (S : XS) : Option XS := (bnd (xiW S 2 ((xi S 2) &&& ((fX5_bitOf p0) ^^^ (-1)))) (fun S3 => (some S3)))
set_option maxHeartbeats 4000000 in
set_option maxRecDepth 100000 in
theorem okX2_takeAway (l : Launch) (D : va_G) (cy : Nat → ClassId) (ad : Nat → Nat) (A : Nat → Prop) (hD : ∀ S, va_D A (wX cy ad S)) (p0 : Int32) (S : XS) (S' : XS) (hf : fX2_takeAway p0 S = some S') : MV l yX2_takeAway wsX2_takeAway { frames := 1, cells := 0, slots := 0, locals := 20 } D cy A (wX cy ad S) [.ref (ad 1), .int p0] (wX cy ad S') := by
  refine Met.ofW (cc := cX2_takeAway) (maxL := 2) (ret := none) (by decide) rfl ?_
  intro p e s m args below meth c s₁ B hml hv
  obtain ⟨ha, hP, hK⟩ := hv
  have hx := B.exec
  have hb := B.bytes
  have hr := B.returns
  have hts := atoms_spec (ws := wsX2_takeAway) B.pre
  have hown : s.vm.findClass RX2 = some m.cls := findClass_of_methodNamed B.named
  have hlocks := B.notSynchronized
  have hS : va_S A s.heap s.heap [] := va_S.rf
  obtain ⟨ls, hl, he0⟩ := ent (m := m) ha (n := 2) (Nat.le_of_ble_eq_true rfl)
  refine W.eq he0 ?_
  have hl : lv_has ls 2 [(0, .ref (ad 1)), (1, .int p0)] := hl
  unfold fX2_takeAway at hf
  suffices hG : ∀ (H : Heap) (locs : List Loc), va_P D vwCl (wX cy ad S) H → va_S A s.heap H locs → W p l e (headSpec wsX2_takeAway { frames := 1, cells := 0, slots := 0, locals := 20 }).room s m args below meth c H locs 0 0 (MQ below (QcV D A (wX cy ad S')) args s 0 0 A) (F0 m 0 ls []) by exact hG s.heap [] hP va_S.rf
  clear hP hS
  intro H locs hP hS
  refine lv_aload_n hx hb dX2_takeAway_0 rfl (lv_at hl 0 rfl) ?_
  refine lv_dup hx hb dX2_takeAway_1 rfl ?_
  refine gfX2_1 hx hb hts (fun _ h => List.mem_cons_of_mem _ (List.mem_append_right _ h)) hown hK hP (hts (Cond.fieldLink RX2 15 "WhoSpeaks$People" "there" "I") (List.mem_of_getElem? (i := 1) rfl)) dX2_takeAway_2 ?_
  refine lv_iload_n hx hb dX2_takeAway_5 rfl (lv_at hl 1 rfl) ?_
  refine kNi (As := [.int p0]) (rest := [.int (xi S 2), .ref (ad 1)]) ⟨hx, hb, hml, hown, hts⟩ (okX5_bitOf l D cy A (wX cy ad S) p0 _ rfl) ⟨va_cnB 1 hts gX2_takeAway_X5_bitOf_n19 rfl rfl rfl hK.2.2.1 (hts (Cond.initialized RX5) (List.mem_of_getElem? (i := 3) rfl)) (by decide +kernel) ⟨Nat.le_of_ble_eq_true rfl, Nat.le_of_ble_eq_true rfl⟩, (hts (Cond.static yX5_bitOf) (List.mem_of_getElem? (i := 2) rfl)), trivial⟩ hK hP hS rfl hl.1 rfl (Nat.le_of_ble_eq_true rfl) dX2_takeAway_6 (fun H locs hP hS => ?_)
  refine lv_iconst (v := (-1)) hx hb dX2_takeAway_9 (by decide) ?_
  refine lv_ixor hx hb dX2_takeAway_10 ?_
  refine lv_iand hx hb dX2_takeAway_11 ?_
  refine pfX2_1 (v := ((xi S 2) &&& ((fX5_bitOf p0) ^^^ (-1)))) hx hb hts (fun _ h => List.mem_cons_of_mem _ (List.mem_append_right _ h)) hown hK hP hD hS (hts (Cond.fieldLink RX2 15 "WhoSpeaks$People" "there" "I") (List.mem_of_getElem? (i := 1) rfl)) dX2_takeAway_12 (fun S3 eS3 H locs hP hS => ?_)
  have hf := bnd_of eS3 hf
  cases hf
  exact rV hx hb hr hP hS hlocks dX2_takeAway_15

def fX5_away (p0 : Int32) (S : XS) : Option (Int32 × XS) := (if (bi (fX2_isThere p0 S)) = 0 then (some ((-1), S)) else (ob1 (fX3_namesAnywhere p0 S) (fun r6 => (if (bi r6) = 0 then (ob1 (fX5_fillChain  S) (fun S10 => (ob1 (fX0_ownSetsWith p0 S10) (fun r11 => (ob1 (fX2_takeAway p0 S10) (fun S14 => (bnd (xiW S14 0 ((xi S14 0) &&& ((fX5_bitOf p0) ^^^ (-1)))) (fun S16 => (some (r11, S16)))))))))) else (some ((-3), S))))))
set_option maxHeartbeats 4000000 in
set_option maxRecDepth 100000 in
theorem okX5_away (l : Launch) (D : va_G) (cy : Nat → ClassId) (ad : Nat → Nat) (A : Nat → Prop) (hD : ∀ S, va_D A (wX cy ad S)) (p0 : Int32) (S : XS) (r : Int32) (S' : XS) (hf : fX5_away p0 S = some (r, S')) : MI l yX5_away wsX5_away { frames := 5, cells := 0, slots := 0, locals := 109 } D cy A (wX cy ad S) [.ref (ad 0), .int p0] r (wX cy ad S') := by
  refine Met.ofW (cc := cX5_away) (maxL := 3) (ret := (some .int)) (by decide) rfl ?_
  intro p e s m args below meth c s₁ B hml hv
  obtain ⟨ha, hP, hK⟩ := hv
  have hx := B.exec
  have hb := B.bytes
  have hr := B.returns
  have hts := atoms_spec (ws := wsX5_away) B.pre
  have hown : s.vm.findClass RX5 = some m.cls := findClass_of_methodNamed B.named
  have hlocks := B.notSynchronized
  have hS : va_S A s.heap s.heap [] := va_S.rf
  obtain ⟨ls, hl, he0⟩ := ent (m := m) ha (n := 3) (Nat.le_of_ble_eq_true rfl)
  refine W.eq he0 ?_
  have hl : lv_has ls 3 [(0, .ref (ad 0)), (1, .int p0)] := hl
  unfold fX5_away at hf
  suffices hG : ∀ (H : Heap) (locs : List Loc), va_P D vwCl (wX cy ad S) H → va_S A s.heap H locs → W p l e (headSpec wsX5_away { frames := 5, cells := 0, slots := 0, locals := 109 }).room s m args below meth c H locs 0 0 (MQ below (QcI D A r (wX cy ad S')) args s 0 0 A) (F0 m 0 ls []) by exact hG s.heap [] hP va_S.rf
  clear hP hS
  intro H locs hP hS
  refine lv_aload_n hx hb dX5_away_0 rfl (lv_at hl 0 rfl) ?_
  refine gfX5_0 hx hb hts (fun _ h => List.mem_cons_of_mem _ (List.mem_append_left _ (List.mem_append_left _ (List.mem_append_left _ (List.mem_append_left _ (List.mem_append_right _ h)))))) hown hK hP (hts (Cond.fieldLink RX5 12 "WhoSpeaks" "people" "LWhoSpeaks$People;") (List.mem_of_getElem? (i := 1) rfl)) dX5_away_1 ?_
  refine lv_iload_n hx hb dX5_away_4 rfl (lv_at hl 1 rfl) ?_
  refine kVi (As := [.int p0]) (rest := []) ⟨hx, hb, hml, hown, hts⟩ (okX2_isThere l D cy ad A hD p0 S _ rfl) (cwV 1 hts gX5_away_X2_isThere rfl rfl rfl (by decide +kernel) ⟨Nat.le_of_ble_eq_true rfl, Nat.le_of_ble_eq_true rfl⟩) hK hP hS (va_recv hK.1 hP (ci := 2) (q := (RX2, TX2, 2)) rfl (atX1 cy ad S)) rfl hl.1 rfl (Nat.le_of_ble_eq_true rfl) dX5_away_5 (fun H locs hP hS => ?_)
  refine lv_if_ne (tgt := 13) hx hb dX5_away_8 (by decide) (fun c5 => ?_) (fun c5 => ?_)
  · have hf := (if_neg c5).symm.trans hf
    refine lv_aload_n hx hb dX5_away_13 rfl (lv_at hl 0 rfl) ?_
    refine gfX5_2 hx hb hts (fun _ h => List.mem_cons_of_mem _ (List.mem_append_left _ (List.mem_append_left _ (List.mem_append_left _ (List.mem_append_left _ (List.mem_append_right _ h)))))) hown hK hP (hts (Cond.fieldLink RX5 26 "WhoSpeaks" "story" "LWhoSpeaks$Story;") (List.mem_of_getElem? (i := 2) rfl)) dX5_away_14 ?_
    refine lv_iload_n hx hb dX5_away_17 rfl (lv_at hl 1 rfl) ?_
    obtain ⟨r6, h7, hf⟩ := ob1_some hf
    refine kVi (As := [.int p0]) (rest := []) ⟨hx, hb, hml, hown, hts⟩ (okX3_namesAnywhere l D cy ad A hD p0 S r6 h7) (cwV 1 hts gX5_away_X3_namesAnywhere rfl rfl rfl (by decide +kernel) ⟨Nat.le_of_ble_eq_true rfl, Nat.le_of_ble_eq_true rfl⟩) hK hP hS (va_recv hK.1 hP (ci := 3) (q := (RX3, TX3, 3)) rfl (atX5 cy ad S)) rfl hl.1 rfl (Nat.le_of_ble_eq_true rfl) dX5_away_18 (fun H locs hP hS => ?_)
    refine lv_if_eq (tgt := 27) hx hb dX5_away_21 (by decide) (fun c8 => ?_) (fun c8 => ?_)
    · have hf := (if_pos c8).symm.trans hf
      refine lv_aload_n hx hb dX5_away_27 rfl (lv_at hl 0 rfl) ?_
      obtain ⟨S10, h9, hf⟩ := ob1_some hf
      refine kVv (As := []) (rest := []) ⟨hx, hb, hml, hown, hts⟩ (okX5_fillChain l D cy ad A hD  S S10 h9) (cwV 0 hts gX5_away_X5_fillChain rfl rfl rfl (by decide +kernel) ⟨Nat.le_of_ble_eq_true rfl, Nat.le_of_ble_eq_true rfl⟩) hK hP hS (va_recv hK.1 hP (ci := 5) (q := (RX5, TX5, 9)) rfl (atX0 cy ad S)) rfl hl.1 rfl (Nat.le_of_ble_eq_true rfl) dX5_away_28 (fun H locs hP hS => ?_)
      refine lv_aload_n hx hb dX5_away_31 rfl (lv_at hl 0 rfl) ?_
      refine gfX5_3 hx hb hts (fun _ h => List.mem_cons_of_mem _ (List.mem_append_left _ (List.mem_append_left _ (List.mem_append_left _ (List.mem_append_left _ (List.mem_append_right _ h)))))) hown hK hP (hts (Cond.fieldLink RX5 33 "WhoSpeaks" "chain" "LWhoSpeaks$Chain;") (List.mem_of_getElem? (i := 3) rfl)) dX5_away_32 ?_
      refine lv_iload_n hx hb dX5_away_35 rfl (lv_at hl 1 rfl) ?_
      obtain ⟨r11, h12, hf⟩ := ob1_some hf
      refine kVi (As := [.int p0]) (rest := []) ⟨hx, hb, hml, hown, hts⟩ (okX0_ownSetsWith l D cy ad A hD p0 S10 r11 h12) (cwV 1 hts gX5_away_X0_ownSetsWith rfl rfl rfl (by decide +kernel) ⟨Nat.le_of_ble_eq_true rfl, Nat.le_of_ble_eq_true rfl⟩) hK hP hS (va_recv hK.1 hP (ci := 0) (q := (RX0, TX0, 9)) rfl (atX7 cy ad S10)) rfl hl.1 rfl (Nat.le_of_ble_eq_true rfl) dX5_away_36 (fun H locs hP hS => ?_)
      refine lv_istore_n (lv' := [(2, .int r11), (0, .ref (ad 0)), (1, .int p0)]) hx hb dX5_away_39 rfl hl (by decide) rfl (fun ls hl => ?_)
      refine lv_aload_n hx hb dX5_away_40 rfl (lv_at hl 1 rfl) ?_
      refine gfX5_0 hx hb hts (fun _ h => List.mem_cons_of_mem _ (List.mem_append_left _ (List.mem_append_left _ (List.mem_append_left _ (List.mem_append_left _ (List.mem_append_right _ h)))))) hown hK hP (hts (Cond.fieldLink RX5 12 "WhoSpeaks" "people" "LWhoSpeaks$People;") (List.mem_of_getElem? (i := 1) rfl)) dX5_away_41 ?_
      refine lv_iload_n hx hb dX5_away_44 rfl (lv_at hl 2 rfl) ?_
      obtain ⟨S14, h13, hf⟩ := ob1_some hf
      refine kVv (As := [.int p0]) (rest := []) ⟨hx, hb, hml, hown, hts⟩ (okX2_takeAway l D cy ad A hD p0 S10 S14 h13) (cwV 1 hts gX5_away_X2_takeAway rfl rfl rfl (by decide +kernel) ⟨Nat.le_of_ble_eq_true rfl, Nat.le_of_ble_eq_true rfl⟩) hK hP hS (va_recv hK.1 hP (ci := 2) (q := (RX2, TX2, 2)) rfl (atX1 cy ad S10)) rfl hl.1 rfl (Nat.le_of_ble_eq_true rfl) dX5_away_45 (fun H locs hP hS => ?_)
      refine lv_aload_n hx hb dX5_away_48 rfl (lv_at hl 1 rfl) ?_
      refine lv_dup hx hb dX5_away_49 rfl ?_
      refine gfX5_7 hx hb hts (fun _ h => List.mem_cons_of_mem _ (List.mem_append_left _ (List.mem_append_left _ (List.mem_append_left _ (List.mem_append_left _ (List.mem_append_right _ h)))))) hown hK hP (hts (Cond.fieldLink RX5 47 "WhoSpeaks" "hereSet" "I") (List.mem_of_getElem? (i := 4) rfl)) dX5_away_50 ?_
      refine lv_iload_n hx hb dX5_away_53 rfl (lv_at hl 2 rfl) ?_
      refine kSi (As := [.int p0]) (rest := [.int (xi S14 0), .ref (ad 0)]) ⟨hx, hb, hml, hown, hts⟩ (okX5_bitOf l D cy A (wX cy ad S14) p0 _ rfl) (va_cwS 1 hts gX5_away_X5_bitOf rfl rfl rfl (by decide +kernel) ⟨Nat.le_of_ble_eq_true rfl, Nat.le_of_ble_eq_true rfl⟩) hK hP hS rfl hl.1 rfl (Nat.le_of_ble_eq_true rfl) dX5_away_54 (fun H locs hP hS => ?_)
      refine lv_iconst (v := (-1)) hx hb dX5_away_57 (by decide) ?_
      refine lv_ixor hx hb dX5_away_58 ?_
      refine lv_iand hx hb dX5_away_59 ?_
      refine pfX5_7 (v := ((xi S14 0) &&& ((fX5_bitOf p0) ^^^ (-1)))) hx hb hts (fun _ h => List.mem_cons_of_mem _ (List.mem_append_left _ (List.mem_append_left _ (List.mem_append_left _ (List.mem_append_left _ (List.mem_append_right _ h)))))) hown hK hP hD hS (hts (Cond.fieldLink RX5 47 "WhoSpeaks" "hereSet" "I") (List.mem_of_getElem? (i := 4) rfl)) dX5_away_60 (fun S16 eS16 H locs hP hS => ?_)
      have hf := bnd_of eS16 hf
      refine lv_iload_n hx hb dX5_away_63 rfl (lv_at hl 0 rfl) ?_
      obtain ⟨he, hS9⟩ := Prod.mk.inj (Option.some.inj hf)
      subst hS9
      exact rI hx hb hr hP hS he hlocks dX5_away_64
    · have hf := (if_neg c8).symm.trans hf
      refine lv_bipush (v := (-3)) hx hb dX5_away_24 (by decide) ?_
      obtain ⟨he, hS9⟩ := Prod.mk.inj (Option.some.inj hf)
      subst hS9
      exact rI hx hb hr hP hS he hlocks dX5_away_26
  · have hf := (if_pos c5).symm.trans hf
    refine lv_iconst (v := (-1)) hx hb dX5_away_11 (by decide) ?_
    obtain ⟨he, hS9⟩ := Prod.mk.inj (Option.some.inj hf)
    subst hS9
    exact rI hx hb hr hP hS he hlocks dX5_away_12

def fX5_here (p0 : Int32) (S : XS) : Option (Int32 × XS) := (if (p0 &&& ((fX2_thereSet  S) ^^^ (-1))) = 0 then (bnd ((xi S 0)) (fun y6 => (bnd (xiW S 0 p0) (fun S7 => (some (y6, S7)))))) else (some ((-2), S)))
set_option maxHeartbeats 4000000 in
set_option maxRecDepth 100000 in
theorem okX5_here (l : Launch) (D : va_G) (cy : Nat → ClassId) (ad : Nat → Nat) (A : Nat → Prop) (hD : ∀ S, va_D A (wX cy ad S)) (p0 : Int32) (S : XS) (r : Int32) (S' : XS) (hf : fX5_here p0 S = some (r, S')) : MI l yX5_here wsX5_here { frames := 1, cells := 0, slots := 0, locals := 20 } D cy A (wX cy ad S) [.ref (ad 0), .int p0] r (wX cy ad S') := by
  refine Met.ofW (cc := cX5_here) (maxL := 3) (ret := (some .int)) (by decide) rfl ?_
  intro p e s m args below meth c s₁ B hml hv
  obtain ⟨ha, hP, hK⟩ := hv
  have hx := B.exec
  have hb := B.bytes
  have hr := B.returns
  have hts := atoms_spec (ws := wsX5_here) B.pre
  have hown : s.vm.findClass RX5 = some m.cls := findClass_of_methodNamed B.named
  have hlocks := B.notSynchronized
  have hS : va_S A s.heap s.heap [] := va_S.rf
  obtain ⟨ls, hl, he0⟩ := ent (m := m) ha (n := 3) (Nat.le_of_ble_eq_true rfl)
  refine W.eq he0 ?_
  have hl : lv_has ls 3 [(0, .ref (ad 0)), (1, .int p0)] := hl
  unfold fX5_here at hf
  suffices hG : ∀ (H : Heap) (locs : List Loc), va_P D vwCl (wX cy ad S) H → va_S A s.heap H locs → W p l e (headSpec wsX5_here { frames := 1, cells := 0, slots := 0, locals := 20 }).room s m args below meth c H locs 0 0 (MQ below (QcI D A r (wX cy ad S')) args s 0 0 A) (F0 m 0 ls []) by exact hG s.heap [] hP va_S.rf
  clear hP hS
  intro H locs hP hS
  refine lv_iload_n hx hb dX5_here_0 rfl (lv_at hl 1 rfl) ?_
  refine lv_aload_n hx hb dX5_here_1 rfl (lv_at hl 0 rfl) ?_
  refine gfX5_0 hx hb hts (fun _ h => List.mem_cons_of_mem _ (List.mem_append_left _ (List.mem_append_right _ h))) hown hK hP (hts (Cond.fieldLink RX5 12 "WhoSpeaks" "people" "LWhoSpeaks$People;") (List.mem_of_getElem? (i := 1) rfl)) dX5_here_2 ?_
  refine kVi (As := []) (rest := [.int p0]) ⟨hx, hb, hml, hown, hts⟩ (okX2_thereSet l D cy ad A hD  S _ rfl) (cwV 0 hts gX5_here_X2_thereSet rfl rfl rfl (by decide +kernel) ⟨Nat.le_of_ble_eq_true rfl, Nat.le_of_ble_eq_true rfl⟩) hK hP hS (va_recv hK.1 hP (ci := 2) (q := (RX2, TX2, 2)) rfl (atX1 cy ad S)) rfl hl.1 rfl (Nat.le_of_ble_eq_true rfl) dX5_here_5 (fun H locs hP hS => ?_)
  refine lv_iconst (v := (-1)) hx hb dX5_here_8 (by decide) ?_
  refine lv_ixor hx hb dX5_here_9 ?_
  refine lv_iand hx hb dX5_here_10 ?_
  refine lv_if_eq (tgt := 17) hx hb dX5_here_11 (by decide) (fun c5 => ?_) (fun c5 => ?_)
  · have hf := (if_pos c5).symm.trans hf
    refine lv_aload_n hx hb dX5_here_17 rfl (lv_at hl 0 rfl) ?_
    refine gfX5_7 hx hb hts (fun _ h => List.mem_cons_of_mem _ (List.mem_append_left _ (List.mem_append_right _ h))) hown hK hP (hts (Cond.fieldLink RX5 47 "WhoSpeaks" "hereSet" "I") (List.mem_of_getElem? (i := 2) rfl)) dX5_here_18 ?_
    refine lv_topi (fun y6 ey6 => ?_)
    have hf := bnd_of ey6 hf
    refine lv_istore_n (lv' := [(2, .int y6), (0, .ref (ad 0)), (1, .int p0)]) hx hb dX5_here_21 rfl hl (by decide) rfl (fun ls hl => ?_)
    refine lv_aload_n hx hb dX5_here_22 rfl (lv_at hl 1 rfl) ?_
    refine lv_iload_n hx hb dX5_here_23 rfl (lv_at hl 2 rfl) ?_
    refine pfX5_7 (v := p0) hx hb hts (fun _ h => List.mem_cons_of_mem _ (List.mem_append_left _ (List.mem_append_right _ h))) hown hK hP hD hS (hts (Cond.fieldLink RX5 47 "WhoSpeaks" "hereSet" "I") (List.mem_of_getElem? (i := 2) rfl)) dX5_here_24 (fun S7 eS7 H locs hP hS => ?_)
    have hf := bnd_of eS7 hf
    refine lv_iload_n hx hb dX5_here_27 rfl (lv_at hl 0 rfl) ?_
    obtain ⟨he, hS9⟩ := Prod.mk.inj (Option.some.inj hf)
    subst hS9
    exact rI hx hb hr hP hS he hlocks dX5_here_28
  · have hf := (if_neg c5).symm.trans hf
    refine lv_bipush (v := (-2)) hx hb dX5_here_14 (by decide) ?_
    obtain ⟨he, hS9⟩ := Prod.mk.inj (Option.some.inj hf)
    subst hS9
    exact rI hx hb hr hP hS he hlocks dX5_here_16

def fX5_rules (p0 : Int32) (S : XS) : Option (Int32 × XS) := (if (p0 &&& (-16)) = 0 then (bnd ((xi S 1)) (fun y5 => (bnd (xiW S 1 p0) (fun S6 => (some (y5, S6)))))) else (some ((-2), S)))
set_option maxHeartbeats 4000000 in
set_option maxRecDepth 100000 in
theorem okX5_rules (l : Launch) (D : va_G) (cy : Nat → ClassId) (ad : Nat → Nat) (A : Nat → Prop) (hD : ∀ S, va_D A (wX cy ad S)) (p0 : Int32) (S : XS) (r : Int32) (S' : XS) (hf : fX5_rules p0 S = some (r, S')) : MI l yX5_rules wsX5_rules { frames := 0, cells := 0, slots := 0, locals := 0 } D cy A (wX cy ad S) [.ref (ad 0), .int p0] r (wX cy ad S') := by
  refine Met.ofW (cc := cX5_rules) (maxL := 3) (ret := (some .int)) (by decide) rfl ?_
  intro p e s m args below meth c s₁ B hml hv
  obtain ⟨ha, hP, hK⟩ := hv
  have hx := B.exec
  have hb := B.bytes
  have hr := B.returns
  have hts := atoms_spec (ws := wsX5_rules) B.pre
  have hown : s.vm.findClass RX5 = some m.cls := findClass_of_methodNamed B.named
  have hlocks := B.notSynchronized
  have hS : va_S A s.heap s.heap [] := va_S.rf
  obtain ⟨ls, hl, he0⟩ := ent (m := m) ha (n := 3) (Nat.le_of_ble_eq_true rfl)
  refine W.eq he0 ?_
  have hl : lv_has ls 3 [(0, .ref (ad 0)), (1, .int p0)] := hl
  unfold fX5_rules at hf
  suffices hG : ∀ (H : Heap) (locs : List Loc), va_P D vwCl (wX cy ad S) H → va_S A s.heap H locs → W p l e (headSpec wsX5_rules { frames := 0, cells := 0, slots := 0, locals := 0 }).room s m args below meth c H locs 0 0 (MQ below (QcI D A r (wX cy ad S')) args s 0 0 A) (F0 m 0 ls []) by exact hG s.heap [] hP va_S.rf
  clear hP hS
  intro H locs hP hS
  refine lv_iload_n hx hb dX5_rules_0 rfl (lv_at hl 1 rfl) ?_
  refine lv_bipush (v := (-16)) hx hb dX5_rules_1 (by decide) ?_
  refine lv_iand hx hb dX5_rules_3 ?_
  refine lv_if_eq (tgt := 10) hx hb dX5_rules_4 (by decide) (fun c4 => ?_) (fun c4 => ?_)
  · have hf := (if_pos c4).symm.trans hf
    refine lv_aload_n hx hb dX5_rules_10 rfl (lv_at hl 0 rfl) ?_
    refine gfX5_8 hx hb hts (fun _ h => List.mem_cons_of_mem _ (List.mem_append_right _ h)) hown hK hP (hts (Cond.fieldLink RX5 51 "WhoSpeaks" "ruleSet" "I") (List.mem_of_getElem? (i := 1) rfl)) dX5_rules_11 ?_
    refine lv_topi (fun y5 ey5 => ?_)
    have hf := bnd_of ey5 hf
    refine lv_istore_n (lv' := [(2, .int y5), (0, .ref (ad 0)), (1, .int p0)]) hx hb dX5_rules_14 rfl hl (by decide) rfl (fun ls hl => ?_)
    refine lv_aload_n hx hb dX5_rules_15 rfl (lv_at hl 1 rfl) ?_
    refine lv_iload_n hx hb dX5_rules_16 rfl (lv_at hl 2 rfl) ?_
    refine pfX5_8 (v := p0) hx hb hts (fun _ h => List.mem_cons_of_mem _ (List.mem_append_right _ h)) hown hK hP hD hS (hts (Cond.fieldLink RX5 51 "WhoSpeaks" "ruleSet" "I") (List.mem_of_getElem? (i := 1) rfl)) dX5_rules_17 (fun S6 eS6 H locs hP hS => ?_)
    have hf := bnd_of eS6 hf
    refine lv_iload_n hx hb dX5_rules_20 rfl (lv_at hl 0 rfl) ?_
    obtain ⟨he, hS9⟩ := Prod.mk.inj (Option.some.inj hf)
    subst hS9
    exact rI hx hb hr hP hS he hlocks dX5_rules_21
  · have hf := (if_neg c4).symm.trans hf
    refine lv_bipush (v := (-2)) hx hb dX5_rules_7 (by decide) ?_
    obtain ⟨he, hS9⟩ := Prod.mk.inj (Option.some.inj hf)
    subst hS9
    exact rI hx hb hr hP hS he hlocks dX5_rules_9

def fX4_isFull  (S : XS) : Bool := (if (xi S 3) < 12 then false else true)
set_option maxHeartbeats 4000000 in
set_option maxRecDepth 100000 in
theorem okX4_isFull (l : Launch) (D : va_G) (cy : Nat → ClassId) (ad : Nat → Nat) (A : Nat → Prop) (hD : ∀ S, va_D A (wX cy ad S))  (S : XS) (r : Bool) (hf : fX4_isFull  S = r) : MI l yX4_isFull wsX4_isFull { frames := 0, cells := 0, slots := 0, locals := 0 } D cy A (wX cy ad S) [.ref (ad 3)] (bi r) (wX cy ad S) := by
  refine Met.ofW (cc := cX4_isFull) (maxL := 1) (ret := (some .boolean)) (by decide) rfl ?_
  intro p e s m args below meth c s₁ B hml hv
  obtain ⟨ha, hP, hK⟩ := hv
  have hx := B.exec
  have hb := B.bytes
  have hr := B.returns
  have hts := atoms_spec (ws := wsX4_isFull) B.pre
  have hown : s.vm.findClass RX4 = some m.cls := findClass_of_methodNamed B.named
  have hlocks := B.notSynchronized
  have hS : va_S A s.heap s.heap [] := va_S.rf
  obtain ⟨ls, hl, he0⟩ := ent (m := m) ha (n := 1) (Nat.le_of_ble_eq_true rfl)
  refine W.eq he0 ?_
  have hl : lv_has ls 1 [(0, .ref (ad 3))] := hl
  unfold fX4_isFull at hf
  suffices hG : ∀ (H : Heap) (locs : List Loc), va_P D vwCl (wX cy ad S) H → va_S A s.heap H locs → W p l e (headSpec wsX4_isFull { frames := 0, cells := 0, slots := 0, locals := 0 }).room s m args below meth c H locs 0 0 (MQ below (QcI D A (bi r) (wX cy ad S)) args s 0 0 A) (F0 m 0 ls []) by exact hG s.heap [] hP va_S.rf
  clear hP hS
  intro H locs hP hS
  refine lv_aload_n hx hb dX4_isFull_0 rfl (lv_at hl 0 rfl) ?_
  refine gfX4_1 hx hb hts (fun _ h => List.mem_cons_of_mem _ (List.mem_append_right _ h)) hown hK hP (hts (Cond.fieldLink RX4 15 "WhoSpeaks$Tape" "count" "I") (List.mem_of_getElem? (i := 1) rfl)) dX4_isFull_1 ?_
  refine lv_aload_n hx hb dX4_isFull_4 rfl (lv_at hl 0 rfl) ?_
  refine gfX4_0 hx hb hts (fun _ h => List.mem_cons_of_mem _ (List.mem_append_right _ h)) hown hK hP (hts (Cond.fieldLink RX4 9 "WhoSpeaks$Tape" "codes" "[I") (List.mem_of_getElem? (i := 2) rfl)) dX4_isFull_5 ?_
  refine anX4 hx hb hK hP dX4_isFull_8 ?_
  refine lv_icmp_lt (tgt := 16) hx hb dX4_isFull_9 (by decide) (fun c2 => ?_) (fun c2 => ?_)
  · have hf := (if_pos c2).symm.trans hf
    refine lv_iconst (v := 0) hx hb dX4_isFull_16 (by decide) ?_
    have he := hf
    exact rZ hx hb hr (bi_nar false) hP hS (congrArg bi he) hlocks dX4_isFull_17
  · have hf := (if_neg c2).symm.trans hf
    refine lv_iconst (v := 1) hx hb dX4_isFull_12 (by decide) ?_
    refine lv_goto (tgt := 17) hx hb dX4_isFull_13 (by decide) ?_
    have he := hf
    exact rZ hx hb hr (bi_nar true) hP hS (congrArg bi he) hlocks dX4_isFull_17

def fX4_put (p0 : Int32) (S : XS) : Option XS := (if (bi (fX5_isWithin (xi S 3) 12)) = 0 then (some S) else (ck (xi S 3) 12 (bnd (xaW S 4 (xi S 3).toNatClampNeg p0) (fun S7 => (bnd (xiW S7 3 ((xi S7 3) + 1)) (fun S9 => (some S9)))))))
set_option maxHeartbeats 4000000 in
set_option maxRecDepth 100000 in
theorem okX4_put (l : Launch) (D : va_G) (cy : Nat → ClassId) (ad : Nat → Nat) (A : Nat → Prop) (hD : ∀ S, va_D A (wX cy ad S)) (p0 : Int32) (S : XS) (S' : XS) (hf : fX4_put p0 S = some S') : MV l yX4_put wsX4_put { frames := 1, cells := 0, slots := 0, locals := 21 } D cy A (wX cy ad S) [.ref (ad 3), .int p0] (wX cy ad S') := by
  refine Met.ofW (cc := cX4_put) (maxL := 2) (ret := none) (by decide) rfl ?_
  intro p e s m args below meth c s₁ B hml hv
  obtain ⟨ha, hP, hK⟩ := hv
  have hx := B.exec
  have hb := B.bytes
  have hr := B.returns
  have hts := atoms_spec (ws := wsX4_put) B.pre
  have hown : s.vm.findClass RX4 = some m.cls := findClass_of_methodNamed B.named
  have hlocks := B.notSynchronized
  have hS : va_S A s.heap s.heap [] := va_S.rf
  obtain ⟨ls, hl, he0⟩ := ent (m := m) ha (n := 2) (Nat.le_of_ble_eq_true rfl)
  refine W.eq he0 ?_
  have hl : lv_has ls 2 [(0, .ref (ad 3)), (1, .int p0)] := hl
  unfold fX4_put at hf
  suffices hG : ∀ (H : Heap) (locs : List Loc), va_P D vwCl (wX cy ad S) H → va_S A s.heap H locs → W p l e (headSpec wsX4_put { frames := 1, cells := 0, slots := 0, locals := 21 }).room s m args below meth c H locs 0 0 (MQ below (QcV D A (wX cy ad S')) args s 0 0 A) (F0 m 0 ls []) by exact hG s.heap [] hP va_S.rf
  clear hP hS
  intro H locs hP hS
  refine lv_aload_n hx hb dX4_put_0 rfl (lv_at hl 0 rfl) ?_
  refine gfX4_1 hx hb hts (fun _ h => List.mem_cons_of_mem _ (List.mem_append_right _ h)) hown hK hP (hts (Cond.fieldLink RX4 15 "WhoSpeaks$Tape" "count" "I") (List.mem_of_getElem? (i := 1) rfl)) dX4_put_1 ?_
  refine lv_aload_n hx hb dX4_put_4 rfl (lv_at hl 0 rfl) ?_
  refine gfX4_0 hx hb hts (fun _ h => List.mem_cons_of_mem _ (List.mem_append_right _ h)) hown hK hP (hts (Cond.fieldLink RX4 9 "WhoSpeaks$Tape" "codes" "[I") (List.mem_of_getElem? (i := 2) rfl)) dX4_put_5 ?_
  refine anX4 hx hb hK hP dX4_put_8 ?_
  refine kNi (As := [.int (xi S 3), .int 12]) (rest := []) ⟨hx, hb, hml, hown, hts⟩ (okX5_isWithin l D cy A (wX cy ad S) (xi S 3) 12 _ rfl) ⟨va_cnB 2 hts gX4_put_X5_isWithin_n19 rfl rfl rfl hK.2.2.2.2.2.2.1 (hts (Cond.initialized RX5) (List.mem_of_getElem? (i := 4) rfl)) (by decide +kernel) ⟨Nat.le_of_ble_eq_true rfl, Nat.le_of_ble_eq_true rfl⟩, (hts (Cond.static yX5_isWithin) (List.mem_of_getElem? (i := 3) rfl)), trivial⟩ hK hP hS rfl hl.1 rfl (Nat.le_of_ble_eq_true rfl) dX4_put_9 (fun H locs hP hS => ?_)
  refine lv_if_eq (tgt := 35) hx hb dX4_put_12 (by decide) (fun c6 => ?_) (fun c6 => ?_)
  · have hf := (if_pos c6).symm.trans hf
    cases hf
    exact rV hx hb hr hP hS hlocks dX4_put_35
  · have hf := (if_neg c6).symm.trans hf
    refine lv_aload_n hx hb dX4_put_15 rfl (lv_at hl 0 rfl) ?_
    refine gfX4_0 hx hb hts (fun _ h => List.mem_cons_of_mem _ (List.mem_append_right _ h)) hown hK hP (hts (Cond.fieldLink RX4 9 "WhoSpeaks$Tape" "codes" "[I") (List.mem_of_getElem? (i := 2) rfl)) dX4_put_16 ?_
    refine lv_aload_n hx hb dX4_put_19 rfl (lv_at hl 0 rfl) ?_
    refine gfX4_1 hx hb hts (fun _ h => List.mem_cons_of_mem _ (List.mem_append_right _ h)) hown hK hP (hts (Cond.fieldLink RX4 15 "WhoSpeaks$Tape" "count" "I") (List.mem_of_getElem? (i := 1) rfl)) dX4_put_20 ?_
    refine lv_iload_n hx hb dX4_put_23 rfl (lv_at hl 1 rfl) ?_
    obtain ⟨c8, hf⟩ := ck_some hf
    refine asX4 (v := p0) hx hb hK hP hD hS c8 dX4_put_24 (fun S7 eS7 H locs hP hS => ?_)
    have hf := bnd_of eS7 hf
    refine lv_aload_n hx hb dX4_put_25 rfl (lv_at hl 0 rfl) ?_
    refine lv_dup hx hb dX4_put_26 rfl ?_
    refine gfX4_1 hx hb hts (fun _ h => List.mem_cons_of_mem _ (List.mem_append_right _ h)) hown hK hP (hts (Cond.fieldLink RX4 15 "WhoSpeaks$Tape" "count" "I") (List.mem_of_getElem? (i := 1) rfl)) dX4_put_27 ?_
    refine lv_iconst (v := 1) hx hb dX4_put_30 (by decide) ?_
    refine lv_iadd hx hb dX4_put_31 ?_
    refine pfX4_1 (v := ((xi S7 3) + 1)) hx hb hts (fun _ h => List.mem_cons_of_mem _ (List.mem_append_right _ h)) hown hK hP hD hS (hts (Cond.fieldLink RX4 15 "WhoSpeaks$Tape" "count" "I") (List.mem_of_getElem? (i := 1) rfl)) dX4_put_32 (fun S9 eS9 H locs hP hS => ?_)
    have hf := bnd_of eS9 hf
    cases hf
    exact rV hx hb hr hP hS hlocks dX4_put_35

def fX4_length  (S : XS) : Int32 := (xi S 3)
set_option maxHeartbeats 4000000 in
set_option maxRecDepth 100000 in
theorem okX4_length (l : Launch) (D : va_G) (cy : Nat → ClassId) (ad : Nat → Nat) (A : Nat → Prop) (hD : ∀ S, va_D A (wX cy ad S))  (S : XS) (r : Int32) (hf : fX4_length  S = r) : MI l yX4_length wsX4_length { frames := 0, cells := 0, slots := 0, locals := 0 } D cy A (wX cy ad S) [.ref (ad 3)] r (wX cy ad S) := by
  refine Met.ofW (cc := cX4_length) (maxL := 1) (ret := (some .int)) (by decide) rfl ?_
  intro p e s m args below meth c s₁ B hml hv
  obtain ⟨ha, hP, hK⟩ := hv
  have hx := B.exec
  have hb := B.bytes
  have hr := B.returns
  have hts := atoms_spec (ws := wsX4_length) B.pre
  have hown : s.vm.findClass RX4 = some m.cls := findClass_of_methodNamed B.named
  have hlocks := B.notSynchronized
  have hS : va_S A s.heap s.heap [] := va_S.rf
  obtain ⟨ls, hl, he0⟩ := ent (m := m) ha (n := 1) (Nat.le_of_ble_eq_true rfl)
  refine W.eq he0 ?_
  have hl : lv_has ls 1 [(0, .ref (ad 3))] := hl
  unfold fX4_length at hf
  suffices hG : ∀ (H : Heap) (locs : List Loc), va_P D vwCl (wX cy ad S) H → va_S A s.heap H locs → W p l e (headSpec wsX4_length { frames := 0, cells := 0, slots := 0, locals := 0 }).room s m args below meth c H locs 0 0 (MQ below (QcI D A r (wX cy ad S)) args s 0 0 A) (F0 m 0 ls []) by exact hG s.heap [] hP va_S.rf
  clear hP hS
  intro H locs hP hS
  refine lv_aload_n hx hb dX4_length_0 rfl (lv_at hl 0 rfl) ?_
  refine gfX4_1 hx hb hts (fun _ h => List.mem_cons_of_mem _ (List.mem_append_right _ h)) hown hK hP (hts (Cond.fieldLink RX4 15 "WhoSpeaks$Tape" "count" "I") (List.mem_of_getElem? (i := 1) rfl)) dX4_length_1 ?_
  have he := hf
  exact rI hx hb hr hP hS he hlocks dX4_length_4

def fX5_key (p0 : Int32) (S : XS) : Option (Int32 × XS) := (if p0 < 0 then (some ((-2), S)) else (if p0 ≤ 127 then (if (bi (fX4_isFull  S)) = 0 then (ob1 (fX4_put p0 S) (fun S9 => (some ((fX4_length  S9), S9)))) else (some ((-4), S))) else (some ((-2), S))))
set_option maxHeartbeats 4000000 in
set_option maxRecDepth 100000 in
theorem okX5_key (l : Launch) (D : va_G) (cy : Nat → ClassId) (ad : Nat → Nat) (A : Nat → Prop) (hD : ∀ S, va_D A (wX cy ad S)) (p0 : Int32) (S : XS) (r : Int32) (S' : XS) (hf : fX5_key p0 S = some (r, S')) : MI l yX5_key wsX5_key { frames := 2, cells := 0, slots := 0, locals := 42 } D cy A (wX cy ad S) [.ref (ad 0), .int p0] r (wX cy ad S') := by
  refine Met.ofW (cc := cX5_key) (maxL := 2) (ret := (some .int)) (by decide) rfl ?_
  intro p e s m args below meth c s₁ B hml hv
  obtain ⟨ha, hP, hK⟩ := hv
  have hx := B.exec
  have hb := B.bytes
  have hr := B.returns
  have hts := atoms_spec (ws := wsX5_key) B.pre
  have hown : s.vm.findClass RX5 = some m.cls := findClass_of_methodNamed B.named
  have hlocks := B.notSynchronized
  have hS : va_S A s.heap s.heap [] := va_S.rf
  obtain ⟨ls, hl, he0⟩ := ent (m := m) ha (n := 2) (Nat.le_of_ble_eq_true rfl)
  refine W.eq he0 ?_
  have hl : lv_has ls 2 [(0, .ref (ad 0)), (1, .int p0)] := hl
  unfold fX5_key at hf
  suffices hG : ∀ (H : Heap) (locs : List Loc), va_P D vwCl (wX cy ad S) H → va_S A s.heap H locs → W p l e (headSpec wsX5_key { frames := 2, cells := 0, slots := 0, locals := 42 }).room s m args below meth c H locs 0 0 (MQ below (QcI D A r (wX cy ad S')) args s 0 0 A) (F0 m 0 ls []) by exact hG s.heap [] hP va_S.rf
  clear hP hS
  intro H locs hP hS
  refine lv_iload_n hx hb dX5_key_0 rfl (lv_at hl 1 rfl) ?_
  refine lv_if_lt (tgt := 10) hx hb dX5_key_1 (by decide) (fun c4 => ?_) (fun c4 => ?_)
  · have hf := (if_pos c4).symm.trans hf
    refine lv_bipush (v := (-2)) hx hb dX5_key_10 (by decide) ?_
    obtain ⟨he, hS9⟩ := Prod.mk.inj (Option.some.inj hf)
    subst hS9
    exact rI hx hb hr hP hS he hlocks dX5_key_12
  · have hf := (if_neg c4).symm.trans hf
    refine lv_iload_n hx hb dX5_key_4 rfl (lv_at hl 1 rfl) ?_
    refine lv_bipush (v := 127) hx hb dX5_key_5 (by decide) ?_
    refine lv_icmp_le (tgt := 13) hx hb dX5_key_7 (by decide) (fun c5 => ?_) (fun c5 => ?_)
    · have hf := (if_pos c5).symm.trans hf
      refine lv_aload_n hx hb dX5_key_13 rfl (lv_at hl 0 rfl) ?_
      refine gfX5_1 hx hb hts (fun _ h => List.mem_cons_of_mem _ (List.mem_append_left _ (List.mem_append_right _ h))) hown hK hP (hts (Cond.fieldLink RX5 19 "WhoSpeaks" "tape" "LWhoSpeaks$Tape;") (List.mem_of_getElem? (i := 1) rfl)) dX5_key_14 ?_
      refine kVi (As := []) (rest := []) ⟨hx, hb, hml, hown, hts⟩ (okX4_isFull l D cy ad A hD  S _ rfl) (cwV 0 hts gX5_key_X4_isFull rfl rfl rfl (by decide +kernel) ⟨Nat.le_of_ble_eq_true rfl, Nat.le_of_ble_eq_true rfl⟩) hK hP hS (va_recv hK.1 hP (ci := 4) (q := (RX4, TX4, 2)) rfl (atX3 cy ad S)) rfl hl.1 rfl (Nat.le_of_ble_eq_true rfl) dX5_key_17 (fun H locs hP hS => ?_)
      refine lv_if_eq (tgt := 26) hx hb dX5_key_20 (by decide) (fun c7 => ?_) (fun c7 => ?_)
      · have hf := (if_pos c7).symm.trans hf
        refine lv_aload_n hx hb dX5_key_26 rfl (lv_at hl 0 rfl) ?_
        refine gfX5_1 hx hb hts (fun _ h => List.mem_cons_of_mem _ (List.mem_append_left _ (List.mem_append_right _ h))) hown hK hP (hts (Cond.fieldLink RX5 19 "WhoSpeaks" "tape" "LWhoSpeaks$Tape;") (List.mem_of_getElem? (i := 1) rfl)) dX5_key_27 ?_
        refine lv_iload_n hx hb dX5_key_30 rfl (lv_at hl 1 rfl) ?_
        obtain ⟨S9, h8, hf⟩ := ob1_some hf
        refine kVv (As := [.int p0]) (rest := []) ⟨hx, hb, hml, hown, hts⟩ (okX4_put l D cy ad A hD p0 S S9 h8) (cwV 1 hts gX5_key_X4_put rfl rfl rfl (by decide +kernel) ⟨Nat.le_of_ble_eq_true rfl, Nat.le_of_ble_eq_true rfl⟩) hK hP hS (va_recv hK.1 hP (ci := 4) (q := (RX4, TX4, 2)) rfl (atX3 cy ad S)) rfl hl.1 rfl (Nat.le_of_ble_eq_true rfl) dX5_key_31 (fun H locs hP hS => ?_)
        refine lv_aload_n hx hb dX5_key_34 rfl (lv_at hl 0 rfl) ?_
        refine gfX5_1 hx hb hts (fun _ h => List.mem_cons_of_mem _ (List.mem_append_left _ (List.mem_append_right _ h))) hown hK hP (hts (Cond.fieldLink RX5 19 "WhoSpeaks" "tape" "LWhoSpeaks$Tape;") (List.mem_of_getElem? (i := 1) rfl)) dX5_key_35 ?_
        refine kVi (As := []) (rest := []) ⟨hx, hb, hml, hown, hts⟩ (okX4_length l D cy ad A hD  S9 _ rfl) (cwV 0 hts gX5_key_X4_length rfl rfl rfl (by decide +kernel) ⟨Nat.le_of_ble_eq_true rfl, Nat.le_of_ble_eq_true rfl⟩) hK hP hS (va_recv hK.1 hP (ci := 4) (q := (RX4, TX4, 2)) rfl (atX3 cy ad S9)) rfl hl.1 rfl (Nat.le_of_ble_eq_true rfl) dX5_key_38 (fun H locs hP hS => ?_)
        obtain ⟨he, hS9⟩ := Prod.mk.inj (Option.some.inj hf)
        subst hS9
        exact rI hx hb hr hP hS he hlocks dX5_key_41
      · have hf := (if_neg c7).symm.trans hf
        refine lv_bipush (v := (-4)) hx hb dX5_key_23 (by decide) ?_
        obtain ⟨he, hS9⟩ := Prod.mk.inj (Option.some.inj hf)
        subst hS9
        exact rI hx hb hr hP hS he hlocks dX5_key_25
    · have hf := (if_neg c5).symm.trans hf
      refine lv_bipush (v := (-2)) hx hb dX5_key_10 (by decide) ?_
      obtain ⟨he, hS9⟩ := Prod.mk.inj (Option.some.inj hf)
      subst hS9
      exact rI hx hb hr hP hS he hlocks dX5_key_12

def fX4_clear  (S : XS) : Option XS := (bnd (xiW S 3 0) (fun S2 => (some S2)))
set_option maxHeartbeats 4000000 in
set_option maxRecDepth 100000 in
theorem okX4_clear (l : Launch) (D : va_G) (cy : Nat → ClassId) (ad : Nat → Nat) (A : Nat → Prop) (hD : ∀ S, va_D A (wX cy ad S))  (S : XS) (S' : XS) (hf : fX4_clear  S = some S') : MV l yX4_clear wsX4_clear { frames := 0, cells := 0, slots := 0, locals := 0 } D cy A (wX cy ad S) [.ref (ad 3)] (wX cy ad S') := by
  refine Met.ofW (cc := cX4_clear) (maxL := 1) (ret := none) (by decide) rfl ?_
  intro p e s m args below meth c s₁ B hml hv
  obtain ⟨ha, hP, hK⟩ := hv
  have hx := B.exec
  have hb := B.bytes
  have hr := B.returns
  have hts := atoms_spec (ws := wsX4_clear) B.pre
  have hown : s.vm.findClass RX4 = some m.cls := findClass_of_methodNamed B.named
  have hlocks := B.notSynchronized
  have hS : va_S A s.heap s.heap [] := va_S.rf
  obtain ⟨ls, hl, he0⟩ := ent (m := m) ha (n := 1) (Nat.le_of_ble_eq_true rfl)
  refine W.eq he0 ?_
  have hl : lv_has ls 1 [(0, .ref (ad 3))] := hl
  unfold fX4_clear at hf
  suffices hG : ∀ (H : Heap) (locs : List Loc), va_P D vwCl (wX cy ad S) H → va_S A s.heap H locs → W p l e (headSpec wsX4_clear { frames := 0, cells := 0, slots := 0, locals := 0 }).room s m args below meth c H locs 0 0 (MQ below (QcV D A (wX cy ad S')) args s 0 0 A) (F0 m 0 ls []) by exact hG s.heap [] hP va_S.rf
  clear hP hS
  intro H locs hP hS
  refine lv_aload_n hx hb dX4_clear_0 rfl (lv_at hl 0 rfl) ?_
  refine lv_iconst (v := 0) hx hb dX4_clear_1 (by decide) ?_
  refine pfX4_1 (v := 0) hx hb hts (fun _ h => List.mem_cons_of_mem _ (List.mem_append_right _ h)) hown hK hP hD hS (hts (Cond.fieldLink RX4 15 "WhoSpeaks$Tape" "count" "I") (List.mem_of_getElem? (i := 1) rfl)) dX4_clear_2 (fun S2 eS2 H locs hP hS => ?_)
  have hf := bnd_of eS2 hf
  cases hf
  exact rV hx hb hr hP hS hlocks dX4_clear_5

def fX5_wipe  (S : XS) : Option (Int32 × XS) := (bnd ((fX4_length  S)) (fun y2 => (ob1 (fX4_clear  S) (fun S4 => (some (y2, S4))))))
set_option maxHeartbeats 4000000 in
set_option maxRecDepth 100000 in
theorem okX5_wipe (l : Launch) (D : va_G) (cy : Nat → ClassId) (ad : Nat → Nat) (A : Nat → Prop) (hD : ∀ S, va_D A (wX cy ad S))  (S : XS) (r : Int32) (S' : XS) (hf : fX5_wipe  S = some (r, S')) : MI l yX5_wipe wsX5_wipe { frames := 1, cells := 0, slots := 0, locals := 20 } D cy A (wX cy ad S) [.ref (ad 0)] r (wX cy ad S') := by
  refine Met.ofW (cc := cX5_wipe) (maxL := 2) (ret := (some .int)) (by decide) rfl ?_
  intro p e s m args below meth c s₁ B hml hv
  obtain ⟨ha, hP, hK⟩ := hv
  have hx := B.exec
  have hb := B.bytes
  have hr := B.returns
  have hts := atoms_spec (ws := wsX5_wipe) B.pre
  have hown : s.vm.findClass RX5 = some m.cls := findClass_of_methodNamed B.named
  have hlocks := B.notSynchronized
  have hS : va_S A s.heap s.heap [] := va_S.rf
  obtain ⟨ls, hl, he0⟩ := ent (m := m) ha (n := 2) (Nat.le_of_ble_eq_true rfl)
  refine W.eq he0 ?_
  have hl : lv_has ls 2 [(0, .ref (ad 0))] := hl
  unfold fX5_wipe at hf
  suffices hG : ∀ (H : Heap) (locs : List Loc), va_P D vwCl (wX cy ad S) H → va_S A s.heap H locs → W p l e (headSpec wsX5_wipe { frames := 1, cells := 0, slots := 0, locals := 20 }).room s m args below meth c H locs 0 0 (MQ below (QcI D A r (wX cy ad S')) args s 0 0 A) (F0 m 0 ls []) by exact hG s.heap [] hP va_S.rf
  clear hP hS
  intro H locs hP hS
  refine lv_aload_n hx hb dX5_wipe_0 rfl (lv_at hl 0 rfl) ?_
  refine gfX5_1 hx hb hts (fun _ h => List.mem_cons_of_mem _ (List.mem_append_left _ (List.mem_append_right _ h))) hown hK hP (hts (Cond.fieldLink RX5 19 "WhoSpeaks" "tape" "LWhoSpeaks$Tape;") (List.mem_of_getElem? (i := 1) rfl)) dX5_wipe_1 ?_
  refine kVi (As := []) (rest := []) ⟨hx, hb, hml, hown, hts⟩ (okX4_length l D cy ad A hD  S _ rfl) (cwV 0 hts gX5_wipe_X4_length rfl rfl rfl (by decide +kernel) ⟨Nat.le_of_ble_eq_true rfl, Nat.le_of_ble_eq_true rfl⟩) hK hP hS (va_recv hK.1 hP (ci := 4) (q := (RX4, TX4, 2)) rfl (atX3 cy ad S)) rfl hl.1 rfl (Nat.le_of_ble_eq_true rfl) dX5_wipe_4 (fun H locs hP hS => ?_)
  refine lv_topi (fun y2 ey2 => ?_)
  have hf := bnd_of ey2 hf
  refine lv_istore_n (lv' := [(1, .int y2), (0, .ref (ad 0))]) hx hb dX5_wipe_7 rfl hl (by decide) rfl (fun ls hl => ?_)
  refine lv_aload_n hx hb dX5_wipe_8 rfl (lv_at hl 1 rfl) ?_
  refine gfX5_1 hx hb hts (fun _ h => List.mem_cons_of_mem _ (List.mem_append_left _ (List.mem_append_right _ h))) hown hK hP (hts (Cond.fieldLink RX5 19 "WhoSpeaks" "tape" "LWhoSpeaks$Tape;") (List.mem_of_getElem? (i := 1) rfl)) dX5_wipe_9 ?_
  obtain ⟨S4, h3, hf⟩ := ob1_some hf
  refine kVv (As := []) (rest := []) ⟨hx, hb, hml, hown, hts⟩ (okX4_clear l D cy ad A hD  S S4 h3) (cwV 0 hts gX5_wipe_X4_clear rfl rfl rfl (by decide +kernel) ⟨Nat.le_of_ble_eq_true rfl, Nat.le_of_ble_eq_true rfl⟩) hK hP hS (va_recv hK.1 hP (ci := 4) (q := (RX4, TX4, 2)) rfl (atX3 cy ad S)) rfl hl.1 rfl (Nat.le_of_ble_eq_true rfl) dX5_wipe_12 (fun H locs hP hS => ?_)
  refine lv_iload_n hx hb dX5_wipe_15 rfl (lv_at hl 0 rfl) ?_
  obtain ⟨he, hS9⟩ := Prod.mk.inj (Option.some.inj hf)
  subst hS9
  exact rI hx hb hr hP hS he hlocks dX5_wipe_16

def fX3_isFull  (S : XS) : Bool := (if (xi S 4) < 16 then false else true)
set_option maxHeartbeats 4000000 in
set_option maxRecDepth 100000 in
theorem okX3_isFull (l : Launch) (D : va_G) (cy : Nat → ClassId) (ad : Nat → Nat) (A : Nat → Prop) (hD : ∀ S, va_D A (wX cy ad S))  (S : XS) (r : Bool) (hf : fX3_isFull  S = r) : MI l yX3_isFull wsX3_isFull { frames := 0, cells := 0, slots := 0, locals := 0 } D cy A (wX cy ad S) [.ref (ad 5)] (bi r) (wX cy ad S) := by
  refine Met.ofW (cc := cX3_isFull) (maxL := 1) (ret := (some .boolean)) (by decide) rfl ?_
  intro p e s m args below meth c s₁ B hml hv
  obtain ⟨ha, hP, hK⟩ := hv
  have hx := B.exec
  have hb := B.bytes
  have hr := B.returns
  have hts := atoms_spec (ws := wsX3_isFull) B.pre
  have hown : s.vm.findClass RX3 = some m.cls := findClass_of_methodNamed B.named
  have hlocks := B.notSynchronized
  have hS : va_S A s.heap s.heap [] := va_S.rf
  obtain ⟨ls, hl, he0⟩ := ent (m := m) ha (n := 1) (Nat.le_of_ble_eq_true rfl)
  refine W.eq he0 ?_
  have hl : lv_has ls 1 [(0, .ref (ad 5))] := hl
  unfold fX3_isFull at hf
  suffices hG : ∀ (H : Heap) (locs : List Loc), va_P D vwCl (wX cy ad S) H → va_S A s.heap H locs → W p l e (headSpec wsX3_isFull { frames := 0, cells := 0, slots := 0, locals := 0 }).room s m args below meth c H locs 0 0 (MQ below (QcI D A (bi r) (wX cy ad S)) args s 0 0 A) (F0 m 0 ls []) by exact hG s.heap [] hP va_S.rf
  clear hP hS
  intro H locs hP hS
  refine lv_aload_n hx hb dX3_isFull_0 rfl (lv_at hl 0 rfl) ?_
  refine gfX3_2 hx hb hts (fun _ h => List.mem_cons_of_mem _ (List.mem_append_right _ h)) hown hK hP (hts (Cond.fieldLink RX3 22 "WhoSpeaks$Story" "count" "I") (List.mem_of_getElem? (i := 1) rfl)) dX3_isFull_1 ?_
  refine lv_aload_n hx hb dX3_isFull_4 rfl (lv_at hl 0 rfl) ?_
  refine gfX3_0 hx hb hts (fun _ h => List.mem_cons_of_mem _ (List.mem_append_right _ h)) hown hK hP (hts (Cond.fieldLink RX3 11 "WhoSpeaks$Story" "paragraphs" "[LWhoSpeaks$Paragraph;") (List.mem_of_getElem? (i := 2) rfl)) dX3_isFull_5 ?_
  refine anX6 hx hb hK hP dX3_isFull_8 ?_
  refine lv_icmp_lt (tgt := 16) hx hb dX3_isFull_9 (by decide) (fun c2 => ?_) (fun c2 => ?_)
  · have hf := (if_pos c2).symm.trans hf
    refine lv_iconst (v := 0) hx hb dX3_isFull_16 (by decide) ?_
    have he := hf
    exact rZ hx hb hr (bi_nar false) hP hS (congrArg bi he) hlocks dX3_isFull_17
  · have hf := (if_neg c2).symm.trans hf
    refine lv_iconst (v := 1) hx hb dX3_isFull_12 (by decide) ?_
    refine lv_goto (tgt := 17) hx hb dX3_isFull_13 (by decide) ?_
    have he := hf
    exact rZ hx hb hr (bi_nar true) hP hS (congrArg bi he) hlocks dX3_isFull_17

def fX3_mayGoOn  (S : XS) : Option Bool := (ob1 (fX3_speaksAt ((xi S 4) - 1) S) (fun r1 => (some r1)))
set_option maxHeartbeats 4000000 in
set_option maxRecDepth 100000 in
theorem okX3_mayGoOn (l : Launch) (D : va_G) (cy : Nat → ClassId) (ad : Nat → Nat) (A : Nat → Prop) (hD : ∀ S, va_D A (wX cy ad S))  (S : XS) (r : Bool) (hf : fX3_mayGoOn  S = some r) : MI l yX3_mayGoOn wsX3_mayGoOn { frames := 3, cells := 0, slots := 0, locals := 63 } D cy A (wX cy ad S) [.ref (ad 5)] (bi r) (wX cy ad S) := by
  refine Met.ofW (cc := cX3_mayGoOn) (maxL := 1) (ret := (some .boolean)) (by decide) rfl ?_
  intro p e s m args below meth c s₁ B hml hv
  obtain ⟨ha, hP, hK⟩ := hv
  have hx := B.exec
  have hb := B.bytes
  have hr := B.returns
  have hts := atoms_spec (ws := wsX3_mayGoOn) B.pre
  have hown : s.vm.findClass RX3 = some m.cls := findClass_of_methodNamed B.named
  have hlocks := B.notSynchronized
  have hS : va_S A s.heap s.heap [] := va_S.rf
  obtain ⟨ls, hl, he0⟩ := ent (m := m) ha (n := 1) (Nat.le_of_ble_eq_true rfl)
  refine W.eq he0 ?_
  have hl : lv_has ls 1 [(0, .ref (ad 5))] := hl
  unfold fX3_mayGoOn at hf
  suffices hG : ∀ (H : Heap) (locs : List Loc), va_P D vwCl (wX cy ad S) H → va_S A s.heap H locs → W p l e (headSpec wsX3_mayGoOn { frames := 3, cells := 0, slots := 0, locals := 63 }).room s m args below meth c H locs 0 0 (MQ below (QcI D A (bi r) (wX cy ad S)) args s 0 0 A) (F0 m 0 ls []) by exact hG s.heap [] hP va_S.rf
  clear hP hS
  intro H locs hP hS
  refine lv_aload_n hx hb dX3_mayGoOn_0 rfl (lv_at hl 0 rfl) ?_
  refine lv_aload_n hx hb dX3_mayGoOn_1 rfl (lv_at hl 0 rfl) ?_
  refine gfX3_2 hx hb hts (fun _ h => List.mem_cons_of_mem _ (List.mem_append_left _ (List.mem_append_right _ h))) hown hK hP (hts (Cond.fieldLink RX3 22 "WhoSpeaks$Story" "count" "I") (List.mem_of_getElem? (i := 1) rfl)) dX3_mayGoOn_2 ?_
  refine lv_iconst (v := 1) hx hb dX3_mayGoOn_5 (by decide) ?_
  refine lv_isub hx hb dX3_mayGoOn_6 ?_
  obtain ⟨r1, h2, hf⟩ := ob1_some hf
  refine kVi (As := [.int ((xi S 4) - 1)]) (rest := []) ⟨hx, hb, hml, hown, hts⟩ (okX3_speaksAt l D cy ad A hD ((xi S 4) - 1) S r1 h2) (cwV 1 hts gX3_mayGoOn_X3_speaksAt rfl rfl rfl (by decide +kernel) ⟨Nat.le_of_ble_eq_true rfl, Nat.le_of_ble_eq_true rfl⟩) hK hP hS (va_recv hK.1 hP (ci := 3) (q := (RX3, TX3, 3)) rfl (atX5 cy ad S)) rfl hl.1 rfl (Nat.le_of_ble_eq_true rfl) dX3_mayGoOn_7 (fun H locs hP hS => ?_)
  have he := Option.some.inj hf
  exact rZ hx hb hr (bi_nar r1) hP hS (congrArg bi he) hlocks dX3_mayGoOn_10
