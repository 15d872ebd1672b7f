def fX4_codeAt (p0 : Int32) (S : XS) : Option Int32 := (if (bi (fX5_isWithin p0 (xi S 3))) = 0 then (some (-1)) else (if 12 ≤ p0 then (some (-1)) else (ck p0 12 (some (xa S 4 p0.toNatClampNeg)))))
set_option maxHeartbeats 4000000 in
set_option maxRecDepth 100000 in
theorem okX4_codeAt (l : Launch) (D : va_G) (cy : Nat → ClassId) (ad : Nat → Nat) (A : Nat → Prop) (hD : ∀ S, va_D A (wX cy ad S)) (p0 : Int32) (S : XS) (r : Int32) (hf : fX4_codeAt p0 S = some r) : MI l yX4_codeAt wsX4_codeAt { frames := 1, cells := 0, slots := 0, locals := 21 } D cy A (wX cy ad S) [.ref (ad 3), .int p0] r (wX cy ad S) := by
  refine Met.ofW (cc := cX4_codeAt) (maxL := 2) (ret := (some .int)) (by decide) rfl ?_
  intro p e s m args below meth c s₁ B hml hv
  obtain ⟨ha, hP, hK⟩ := hv
  have hx := B.exec
  have hb := B.bytes
  have hr := B.returns
  have hts := atoms_spec (ws := wsX4_codeAt) B.pre
  have hown : s.vm.findClass RX4 = some m.cls := findClass_of_methodNamed B.named
  have hlocks := B.notSynchronized
  have hS : va_S A s.heap s.heap [] := va_S.rf
  obtain ⟨ls, hl, he0⟩ := ent (m := m) ha (n := 2) (Nat.le_of_ble_eq_true rfl)
  refine W.eq he0 ?_
  have hl : lv_has ls 2 [(0, .ref (ad 3)), (1, .int p0)] := hl
  unfold fX4_codeAt at hf
  suffices hG : ∀ (H : Heap) (locs : List Loc), va_P D vwCl (wX cy ad S) H → va_S A s.heap H locs → W p l e (headSpec wsX4_codeAt { frames := 1, cells := 0, slots := 0, locals := 21 }).room s m args below meth c H locs 0 0 (MQ below (QcI D A r (wX cy ad S)) args s 0 0 A) (F0 m 0 ls []) by exact hG s.heap [] hP va_S.rf
  clear hP hS
  intro H locs hP hS
  refine lv_iload_n hx hb dX4_codeAt_0 rfl (lv_at hl 1 rfl) ?_
  refine lv_aload_n hx hb dX4_codeAt_1 rfl (lv_at hl 0 rfl) ?_
  refine gfX4_1 hx hb hts (fun _ h => List.mem_cons_of_mem _ (List.mem_append_right _ h)) hown hK hP (hts (Cond.fieldLink RX4 15 "WhoSpeaks$Tape" "count" "I") (List.mem_of_getElem? (i := 1) rfl)) dX4_codeAt_2 ?_
  refine kNi (As := [.int p0, .int (xi S 3)]) (rest := []) ⟨hx, hb, hml, hown, hts⟩ (okX5_isWithin l D cy A (wX cy ad S) p0 (xi S 3) _ rfl) ⟨va_cnB 2 hts gX4_codeAt_X5_isWithin_n19 rfl rfl rfl hK.2.2.2.2.2.2.1 (hts (Cond.initialized RX5) (List.mem_of_getElem? (i := 4) rfl)) (by decide +kernel) ⟨Nat.le_of_ble_eq_true rfl, Nat.le_of_ble_eq_true rfl⟩, (hts (Cond.static yX5_isWithin) (List.mem_of_getElem? (i := 3) rfl)), trivial⟩ hK hP hS rfl hl.1 rfl (Nat.le_of_ble_eq_true rfl) dX4_codeAt_5 (fun H locs hP hS => ?_)
  refine lv_if_eq (tgt := 29) hx hb dX4_codeAt_8 (by decide) (fun c5 => ?_) (fun c5 => ?_)
  · have hf := (if_pos c5).symm.trans hf
    refine lv_iconst (v := (-1)) hx hb dX4_codeAt_29 (by decide) ?_
    have he := Option.some.inj hf
    exact rI hx hb hr hP hS he hlocks dX4_codeAt_30
  · have hf := (if_neg c5).symm.trans hf
    refine lv_iload_n hx hb dX4_codeAt_11 rfl (lv_at hl 1 rfl) ?_
    refine lv_aload_n hx hb dX4_codeAt_12 rfl (lv_at hl 0 rfl) ?_
    refine gfX4_0 hx hb hts (fun _ h => List.mem_cons_of_mem _ (List.mem_append_right _ h)) hown hK hP (hts (Cond.fieldLink RX4 9 "WhoSpeaks$Tape" "codes" "[I") (List.mem_of_getElem? (i := 2) rfl)) dX4_codeAt_13 ?_
    refine anX4 hx hb hK hP dX4_codeAt_16 ?_
    refine lv_icmp_ge (tgt := 29) hx hb dX4_codeAt_17 (by decide) (fun c6 => ?_) (fun c6 => ?_)
    · have hf := (if_pos c6).symm.trans hf
      refine lv_iconst (v := (-1)) hx hb dX4_codeAt_29 (by decide) ?_
      have he := Option.some.inj hf
      exact rI hx hb hr hP hS he hlocks dX4_codeAt_30
    · have hf := (if_neg c6).symm.trans hf
      refine lv_aload_n hx hb dX4_codeAt_20 rfl (lv_at hl 0 rfl) ?_
      refine gfX4_0 hx hb hts (fun _ h => List.mem_cons_of_mem _ (List.mem_append_right _ h)) hown hK hP (hts (Cond.fieldLink RX4 9 "WhoSpeaks$Tape" "codes" "[I") (List.mem_of_getElem? (i := 2) rfl)) dX4_codeAt_21 ?_
      refine lv_iload_n hx hb dX4_codeAt_24 rfl (lv_at hl 1 rfl) ?_
      obtain ⟨c7, hf⟩ := ck_some hf
      refine alX4 hx hb hK hP c7 dX4_codeAt_25 ?_
      refine lv_goto (tgt := 30) hx hb dX4_codeAt_26 (by decide) ?_
      have he := Option.some.inj hf
      exact rI hx hb hr hP hS he hlocks dX4_codeAt_30

def fX2_isName (p0 : Int32) (S : XS) : Bool := (fX2_isThere (p0 - 65) S)
set_option maxHeartbeats 4000000 in
set_option maxRecDepth 100000 in
theorem okX2_isName (l : Launch) (D : va_G) (cy : Nat → ClassId) (ad : Nat → Nat) (A : Nat → Prop) (hD : ∀ S, va_D A (wX cy ad S)) (p0 : Int32) (S : XS) (r : Bool) (hf : fX2_isName p0 S = r) : MI l yX2_isName wsX2_isName { frames := 2, cells := 0, slots := 0, locals := 41 } D cy A (wX cy ad S) [.ref (ad 1), .int p0] (bi r) (wX cy ad S) := by
  refine Met.ofW (cc := cX2_isName) (maxL := 2) (ret := (some .boolean)) (by decide) rfl ?_
  intro p e s m args below meth c s₁ B hml hv
  obtain ⟨ha, hP, hK⟩ := hv
  have hx := B.exec
  have hb := B.bytes
  have hr := B.returns
  have hts := atoms_spec (ws := wsX2_isName) B.pre
  have hown : s.vm.findClass RX2 = some m.cls := findClass_of_methodNamed B.named
  have hlocks := B.notSynchronized
  have hS : va_S A s.heap s.heap [] := va_S.rf
  obtain ⟨ls, hl, he0⟩ := ent (m := m) ha (n := 2) (Nat.le_of_ble_eq_true rfl)
  refine W.eq he0 ?_
  have hl : lv_has ls 2 [(0, .ref (ad 1)), (1, .int p0)] := hl
  unfold fX2_isName at hf
  suffices hG : ∀ (H : Heap) (locs : List Loc), va_P D vwCl (wX cy ad S) H → va_S A s.heap H locs → W p l e (headSpec wsX2_isName { frames := 2, cells := 0, slots := 0, locals := 41 }).room s m args below meth c H locs 0 0 (MQ below (QcI D A (bi r) (wX cy ad S)) args s 0 0 A) (F0 m 0 ls []) by exact hG s.heap [] hP va_S.rf
  clear hP hS
  intro H locs hP hS
  refine lv_aload_n hx hb dX2_isName_0 rfl (lv_at hl 0 rfl) ?_
  refine lv_iload_n hx hb dX2_isName_1 rfl (lv_at hl 1 rfl) ?_
  refine lv_bipush (v := 65) hx hb dX2_isName_2 (by decide) ?_
  refine lv_isub hx hb dX2_isName_4 ?_
  refine kVi (As := [.int (p0 - 65)]) (rest := []) ⟨hx, hb, hml, hown, hts⟩ (okX2_isThere l D cy ad A hD (p0 - 65) S _ rfl) (cwV 1 hts gX2_isName_X2_isThere rfl rfl rfl (by decide +kernel) ⟨Nat.le_of_ble_eq_true rfl, Nat.le_of_ble_eq_true rfl⟩) hK hP hS (va_recv hK.1 hP (ci := 2) (q := (RX2, TX2, 2)) rfl (atX1 cy ad S)) rfl hl.1 rfl (Nat.le_of_ble_eq_true rfl) dX2_isName_5 (fun H locs hP hS => ?_)
  have he := hf
  exact rZ hx hb hr (bi_nar (fX2_isThere (p0 - 65) S)) hP hS (congrArg bi he) hlocks dX2_isName_8

def fX4_mayStand (p0 : Int32) (p2 : Bool) (S : XS) : Option Bool := (ob1 (fX4_codeAt p0 S) (fun r5 => (ob1 (fX4_codeAt (p0 - 1) S) (fun r7 => (if r7 = 64 then (some (fX2_isName r5 S)) else (if r5 = 43 then (if p0 = 0 then (if (bi p2) = 0 then (some false) else (some true)) else (some false)) else (if r5 = 64 then (if r7 = 113 then (some true) else (some false)) else (if r5 = 104 then (some true) else (if r5 = 111 then (some true) else (if r5 = 113 then (some true) else (if r5 = 115 then (some true) else (if r5 = 118 then (some true) else (some (fX2_isName r5 S))))))))))))))
set_option maxHeartbeats 4000000 in
set_option maxRecDepth 100000 in
theorem okX4_mayStand (l : Launch) (D : va_G) (cy : Nat → ClassId) (ad : Nat → Nat) (A : Nat → Prop) (hD : ∀ S, va_D A (wX cy ad S)) (p0 : Int32) (p2 : Bool) (S : XS) (r : Bool) (hf : fX4_mayStand p0 p2 S = some r) : MI l yX4_mayStand wsX4_mayStand { frames := 3, cells := 0, slots := 0, locals := 62 } D cy A (wX cy ad S) [.ref (ad 3), .int p0, .ref (ad 1), .int (bi p2)] (bi r) (wX cy ad S) := by
  refine Met.ofW (cc := cX4_mayStand) (maxL := 6) (ret := (some .boolean)) (by decide) rfl ?_
  intro p e s m args below meth c s₁ B hml hv
  obtain ⟨ha, hP, hK⟩ := hv
  have hx := B.exec
  have hb := B.bytes
  have hr := B.returns
  have hts := atoms_spec (ws := wsX4_mayStand) B.pre
  have hown : s.vm.findClass RX4 = some m.cls := findClass_of_methodNamed B.named
  have hlocks := B.notSynchronized
  have hS : va_S A s.heap s.heap [] := va_S.rf
  obtain ⟨ls, hl, he0⟩ := ent (m := m) ha (n := 6) (Nat.le_of_ble_eq_true rfl)
  refine W.eq he0 ?_
  have hl : lv_has ls 6 [(0, .ref (ad 3)), (1, .int p0), (2, .ref (ad 1)), (3, .int (bi p2))] := hl
  unfold fX4_mayStand at hf
  suffices hG : ∀ (H : Heap) (locs : List Loc), va_P D vwCl (wX cy ad S) H → va_S A s.heap H locs → W p l e (headSpec wsX4_mayStand { frames := 3, cells := 0, slots := 0, locals := 62 }).room s m args below meth c H locs 0 0 (MQ below (QcI D A (bi r) (wX cy ad S)) args s 0 0 A) (F0 m 0 ls []) by exact hG s.heap [] hP va_S.rf
  clear hP hS
  intro H locs hP hS
  refine lv_aload_n hx hb dX4_mayStand_0 rfl (lv_at hl 0 rfl) ?_
  refine lv_iload_n hx hb dX4_mayStand_1 rfl (lv_at hl 1 rfl) ?_
  obtain ⟨r5, h6, hf⟩ := ob1_some hf
  refine kVi (As := [.int p0]) (rest := []) ⟨hx, hb, hml, hown, hts⟩ (okX4_codeAt l D cy ad A hD p0 S r5 h6) (cwV 1 hts gX4_mayStand_X4_codeAt rfl rfl rfl (by decide +kernel) ⟨Nat.le_of_ble_eq_true rfl, Nat.le_of_ble_eq_true rfl⟩) hK hP hS (va_recv hK.1 hP (ci := 4) (q := (RX4, TX4, 2)) rfl (atX3 cy ad S)) rfl hl.1 rfl (Nat.le_of_ble_eq_true rfl) dX4_mayStand_2 (fun H locs hP hS => ?_)
  refine lv_istore (lv' := [(4, .int r5), (0, .ref (ad 3)), (1, .int p0), (2, .ref (ad 1)), (3, .int (bi p2))]) hx hb dX4_mayStand_5 hl (by decide) rfl (fun ls hl => ?_)
  refine lv_aload_n hx hb dX4_mayStand_7 rfl (lv_at hl 1 rfl) ?_
  refine lv_iload_n hx hb dX4_mayStand_8 rfl (lv_at hl 2 rfl) ?_
  refine lv_iconst (v := 1) hx hb dX4_mayStand_9 (by decide) ?_
  refine lv_isub hx hb dX4_mayStand_10 ?_
  obtain ⟨r7, h8, hf⟩ := ob1_some hf
  refine kVi (As := [.int (p0 - 1)]) (rest := []) ⟨hx, hb, hml, hown, hts⟩ (okX4_codeAt l D cy ad A hD (p0 - 1) S r7 h8) (cwV 1 hts gX4_mayStand_X4_codeAt rfl rfl rfl (by decide +kernel) ⟨Nat.le_of_ble_eq_true rfl, Nat.le_of_ble_eq_true rfl⟩) hK hP hS (va_recv hK.1 hP (ci := 4) (q := (RX4, TX4, 2)) rfl (atX3 cy ad S)) rfl hl.1 rfl (Nat.le_of_ble_eq_true rfl) dX4_mayStand_11 (fun H locs hP hS => ?_)
  refine lv_istore (lv' := [(5, .int r7), (4, .int r5), (0, .ref (ad 3)), (1, .int p0), (2, .ref (ad 1)), (3, .int (bi p2))]) hx hb dX4_mayStand_14 hl (by decide) rfl (fun ls hl => ?_)
  refine lv_iload hx hb dX4_mayStand_16 (lv_at hl 0 rfl) ?_
  refine lv_bipush (v := 64) hx hb dX4_mayStand_18 (by decide) ?_
  refine lv_icmp_ne (tgt := 30) hx hb dX4_mayStand_20 (by decide) (fun c9 => ?_) (fun c9 => ?_)
  · have hf := (if_neg c9).symm.trans hf
    refine lv_iload hx hb dX4_mayStand_30 (lv_at hl 1 rfl) ?_
    by_cases c11 : r5 = 43
    · have hf := (if_pos c11).symm.trans hf
      refine lv_lookup (off := 68) (tgt := 100) hx hb dX4_mayStand_32 (by decide) (by rw [c11]; decide) (by decide) ?_
      refine lv_iload_n hx hb dX4_mayStand_100 rfl (lv_at hl 3 rfl) ?_
      refine lv_if_ne (tgt := 112) hx hb dX4_mayStand_101 (by decide) (fun c12 => ?_) (fun c12 => ?_)
      · have hf := (if_neg c12).symm.trans hf
        refine lv_iconst (v := 0) hx hb dX4_mayStand_112 (by decide) ?_
        have he := Option.some.inj hf
        exact rZ hx hb hr (bi_nar false) hP hS (congrArg bi he) hlocks dX4_mayStand_113
      · have hf := (if_pos c12).symm.trans hf
        refine lv_iload_n hx hb dX4_mayStand_104 rfl (lv_at hl 5 rfl) ?_
        refine lv_if_eq (tgt := 112) hx hb dX4_mayStand_105 (by decide) (fun c13 => ?_) (fun c13 => ?_)
        · have hf := (if_pos c13).symm.trans hf
          refine lv_iconst (v := 0) hx hb dX4_mayStand_112 (by decide) ?_
          have he := Option.some.inj hf
          exact rZ hx hb hr (bi_nar false) hP hS (congrArg bi he) hlocks dX4_mayStand_113
        · have hf := (if_neg c13).symm.trans hf
          refine lv_iconst (v := 1) hx hb dX4_mayStand_108 (by decide) ?_
          refine lv_goto (tgt := 113) hx hb dX4_mayStand_109 (by decide) ?_
          have he := Option.some.inj hf
          exact rZ hx hb hr (bi_nar true) hP hS (congrArg bi he) hlocks dX4_mayStand_113
    · have hf := (if_neg c11).symm.trans hf
      by_cases c14 : r5 = 64
      · have hf := (if_pos c14).symm.trans hf
        refine lv_lookup (off := 82) (tgt := 114) hx hb dX4_mayStand_32 (by decide) (by rw [c14]; decide) (by decide) ?_
        refine lv_iload hx hb dX4_mayStand_114 (lv_at hl 0 rfl) ?_
        refine lv_bipush (v := 113) hx hb dX4_mayStand_116 (by decide) ?_
        refine lv_icmp_ne (tgt := 125) hx hb dX4_mayStand_118 (by decide) (fun c15 => ?_) (fun c15 => ?_)
        · have hf := (if_neg c15).symm.trans hf
          refine lv_iconst (v := 0) hx hb dX4_mayStand_125 (by decide) ?_
          have he := Option.some.inj hf
          exact rZ hx hb hr (bi_nar false) hP hS (congrArg bi he) hlocks dX4_mayStand_126
        · have hf := (if_pos c15).symm.trans hf
          refine lv_iconst (v := 1) hx hb dX4_mayStand_121 (by decide) ?_
          refine lv_goto (tgt := 126) hx hb dX4_mayStand_122 (by decide) ?_
          have he := Option.some.inj hf
          exact rZ hx hb hr (bi_nar true) hP hS (congrArg bi he) hlocks dX4_mayStand_126
      · have hf := (if_neg c14).symm.trans hf
        by_cases c16 : r5 = 104
        · have hf := (if_pos c16).symm.trans hf
          refine lv_lookup (off := 95) (tgt := 127) hx hb dX4_mayStand_32 (by decide) (by rw [c16]; decide) (by decide) ?_
          refine lv_iconst (v := 1) hx hb dX4_mayStand_127 (by decide) ?_
          have he := Option.some.inj hf
          exact rZ hx hb hr (bi_nar true) hP hS (congrArg bi he) hlocks dX4_mayStand_128
        · have hf := (if_neg c16).symm.trans hf
          by_cases c17 : r5 = 111
          · have hf := (if_pos c17).symm.trans hf
            refine lv_lookup (off := 95) (tgt := 127) hx hb dX4_mayStand_32 (by decide) (by rw [c17]; decide) (by decide) ?_
            refine lv_iconst (v := 1) hx hb dX4_mayStand_127 (by decide) ?_
            have he := Option.some.inj hf
            exact rZ hx hb hr (bi_nar true) hP hS (congrArg bi he) hlocks dX4_mayStand_128
          · have hf := (if_neg c17).symm.trans hf
            by_cases c18 : r5 = 113
            · have hf := (if_pos c18).symm.trans hf
              refine lv_lookup (off := 95) (tgt := 127) hx hb dX4_mayStand_32 (by decide) (by rw [c18]; decide) (by decide) ?_
              refine lv_iconst (v := 1) hx hb dX4_mayStand_127 (by decide) ?_
              have he := Option.some.inj hf
              exact rZ hx hb hr (bi_nar true) hP hS (congrArg bi he) hlocks dX4_mayStand_128
            · have hf := (if_neg c18).symm.trans hf
              by_cases c19 : r5 = 115
              · have hf := (if_pos c19).symm.trans hf
                refine lv_lookup (off := 95) (tgt := 127) hx hb dX4_mayStand_32 (by decide) (by rw [c19]; decide) (by decide) ?_
                refine lv_iconst (v := 1) hx hb dX4_mayStand_127 (by decide) ?_
                have he := Option.some.inj hf
                exact rZ hx hb hr (bi_nar true) hP hS (congrArg bi he) hlocks dX4_mayStand_128
              · have hf := (if_neg c19).symm.trans hf
                by_cases c20 : r5 = 118
                · have hf := (if_pos c20).symm.trans hf
                  refine lv_lookup (off := 95) (tgt := 127) hx hb dX4_mayStand_32 (by decide) (by rw [c20]; decide) (by decide) ?_
                  refine lv_iconst (v := 1) hx hb dX4_mayStand_127 (by decide) ?_
                  have he := Option.some.inj hf
                  exact rZ hx hb hr (bi_nar true) hP hS (congrArg bi he) hlocks dX4_mayStand_128
                · have hf := (if_neg c20).symm.trans hf
                  refine lv_lookup (off := 97) (tgt := 129) hx hb dX4_mayStand_32 (by decide) ?_ (by decide) ?_
                  · have n43 := ne_toInt c11
                    have z43 : (43 : Int32).toInt = 43 := rfl
                    have n64 := ne_toInt c14
                    have z64 : (64 : Int32).toInt = 64 := rfl
                    have n104 := ne_toInt c16
                    have z104 : (104 : Int32).toInt = 104 := rfl
                    have n111 := ne_toInt c17
                    have z111 : (111 : Int32).toInt = 111 := rfl
                    have n113 := ne_toInt c18
                    have z113 : (113 : Int32).toInt = 113 := rfl
                    have n115 := ne_toInt c19
                    have z115 : (115 : Int32).toInt = 115 := rfl
                    have n118 := ne_toInt c20
                    have z118 : (118 : Int32).toInt = 118 := rfl
                    show Op.lookupswitch.offset [(43, 68), (64, 82), (104, 95), (111, 95), (113, 95), (115, 95), (118, 95)] 97 r5.toInt = 97
                    rw [Op.lookupswitch.offset_cons, if_neg (by omega), Op.lookupswitch.offset_cons, if_neg (by omega), Op.lookupswitch.offset_cons, if_neg (by omega), Op.lookupswitch.offset_cons, if_neg (by omega), Op.lookupswitch.offset_cons, if_neg (by omega), Op.lookupswitch.offset_cons, if_neg (by omega), Op.lookupswitch.offset_cons, if_neg (by omega), Op.lookupswitch.offset_nil]
                  · refine lv_aload_n hx hb dX4_mayStand_129 rfl (lv_at hl 4 rfl) ?_
                    refine lv_iload hx hb dX4_mayStand_130 (lv_at hl 1 rfl) ?_
                    refine kVi (As := [.int r5]) (rest := []) ⟨hx, hb, hml, hown, hts⟩ (okX2_isName l D cy ad A hD r5 S _ rfl) (cwV 1 hts gX4_mayStand_X2_isName rfl rfl rfl (by decide +kernel) ⟨Nat.le_of_ble_eq_true rfl, Nat.le_of_ble_eq_true rfl⟩) hK hP hS (va_recv hK.1 hP (ci := 2) (q := (RX2, TX2, 2)) rfl (atX1 cy ad S)) rfl hl.1 rfl (Nat.le_of_ble_eq_true rfl) dX4_mayStand_132 (fun H locs hP hS => ?_)
                    have he := Option.some.inj hf
                    exact rZ hx hb hr (bi_nar (fX2_isName r5 S)) hP hS (congrArg bi he) hlocks dX4_mayStand_135
  · have hf := (if_pos c9).symm.trans hf
    refine lv_aload_n hx hb dX4_mayStand_23 rfl (lv_at hl 4 rfl) ?_
    refine lv_iload hx hb dX4_mayStand_24 (lv_at hl 1 rfl) ?_
    refine kVi (As := [.int r5]) (rest := []) ⟨hx, hb, hml, hown, hts⟩ (okX2_isName l D cy ad A hD r5 S _ rfl) (cwV 1 hts gX4_mayStand_X2_isName rfl rfl rfl (by decide +kernel) ⟨Nat.le_of_ble_eq_true rfl, Nat.le_of_ble_eq_true rfl⟩) hK hP hS (va_recv hK.1 hP (ci := 2) (q := (RX2, TX2, 2)) rfl (atX1 cy ad S)) rfl hl.1 rfl (Nat.le_of_ble_eq_true rfl) dX4_mayStand_26 (fun H locs hP hS => ?_)
    have he := Option.some.inj hf
    exact rZ hx hb hr (bi_nar (fX2_isName r5 S)) hP hS (congrArg bi he) hlocks dX4_mayStand_29

def bX4_firstFault_96  (x4 : Bool) (s0 : Bool) (S : XS) : Option Int32 := (if (xi S 3) = 0 then (some (xi S 3)) else (if (bi x4) = 0 then (if (bi s0) = 0 then (some (-9)) else (some (xi S 3))) else (some (xi S 3))))
def bX4_firstFault_75  (x3 : Bool) (s0 : Bool) (S : XS) : Option Int32 := (ob1 (fX4_codeAt 0 S) (fun r26 => (if r26 = 43 then (if (bi x3) = 0 then (bX4_firstFault_96  (s0) (true) S) else (bX4_firstFault_96  (s0) (false) S)) else (bX4_firstFault_96  (s0) (false) S))))
def bX4_firstFault_5  (k5 : Bool × Bool × Int32 × XS → Option Int32) (x2 : Bool) (x3 : Bool) (x4 : Int32) (S : XS) : Option Int32 := (if (xi S 3) ≤ x4 then (ob1 (fX4_codeAt ((xi S 3) - 1) S) (fun r31 => (if r31 = 64 then (bX4_firstFault_75  (x3) (true) S) else (bX4_firstFault_75  (x3) (false) S)))) else (ob1 (fX4_mayStand x4 x2 S) (fun r34 => (if (bi r34) = 0 then (some x4) else (if (bi x3) = 0 then (ob1 (fX4_codeAt x4 S) (fun r38 => (if r38 = 113 then (k5 (x2, true, (x4 + 1), S)) else (k5 (x2, false, (x4 + 1), S))))) else (k5 (x2, true, (x4 + 1), S)))))))
def fX4_firstFault (p1 : Bool) (S : XS) : Option Int32 := (lp (fun k q => bX4_firstFault_5  k q.1 q.2.1 q.2.2.1 q.2.2.2) FU (p1, false, 0, S))
set_option maxHeartbeats 4000000 in
set_option maxRecDepth 100000 in
theorem okX4_firstFault (l : Launch) (D : va_G) (cy : Nat → ClassId) (ad : Nat → Nat) (A : Nat → Prop) (hD : ∀ S, va_D A (wX cy ad S)) (p1 : Bool) (S : XS) (r : Int32) (hf : fX4_firstFault p1 S = some r) : MI l yX4_firstFault wsX4_firstFault { frames := 4, cells := 0, slots := 0, locals := 87 } D cy A (wX cy ad S) [.ref (ad 3), .ref (ad 1), .int (bi p1)] r (wX cy ad S) := by
  refine Met.ofW (cc := cX4_firstFault) (maxL := 6) (ret := (some .int)) (by decide) rfl ?_
  intro p e s m args below meth c s₁ B hml hv
  obtain ⟨ha, hP, hK⟩ := hv
  have hx := B.exec
  have hb := B.bytes
  have hr := B.returns
  have hts := atoms_spec (ws := wsX4_firstFault) B.pre
  have hown : s.vm.findClass RX4 = some m.cls := findClass_of_methodNamed B.named
  have hlocks := B.notSynchronized
  have hS : va_S A s.heap s.heap [] := va_S.rf
  obtain ⟨ls, hl, he0⟩ := ent (m := m) ha (n := 6) (Nat.le_of_ble_eq_true rfl)
  refine W.eq he0 ?_
  have hl : lv_has ls 6 [(0, .ref (ad 3)), (1, .ref (ad 1)), (2, .int (bi p1))] := hl
  have K96 : ∀ (x4 : Bool) (s0 : Bool) (S : XS) (H : Heap) (locs : List Loc) (ls : Array Slot), va_P D vwCl (wX cy ad S) H → va_S A s.heap H locs → lv_has ls 6 [(0, .ref (ad 3)), (4, .int (bi x4))] → bX4_firstFault_96  x4 s0 S = some r → W p l e (headSpec wsX4_firstFault { frames := 4, cells := 0, slots := 0, locals := 87 }).room s m args below meth c H locs 0 0 (MQ below (QcI D A r (wX cy ad S)) args s 0 0 A) (F0 m 96 ls [.int (bi s0)]) := by
    intro  x4 s0 S H locs ls hP hS hl hf
    unfold bX4_firstFault_96 at hf
    refine lv_istore (lv' := [(5, .int (bi s0)), (0, .ref (ad 3)), (4, .int (bi x4))]) hx hb dX4_firstFault_96 hl (by decide) rfl (fun ls hl => ?_)
    refine lv_aload_n hx hb dX4_firstFault_98 rfl (lv_at hl 1 rfl) ?_
    refine gfX4_1 hx hb hts (fun _ h => List.mem_cons_of_mem _ (List.mem_append_left _ (List.mem_append_right _ h))) hown hK hP (hts (Cond.fieldLink RX4 15 "WhoSpeaks$Tape" "count" "I") (List.mem_of_getElem? (i := 1) rfl)) dX4_firstFault_99 ?_
    refine lv_if_eq (tgt := 115) hx hb dX4_firstFault_102 (by decide) (fun c23 => ?_) (fun c23 => ?_)
    · have hf := (if_pos c23).symm.trans hf
      refine lv_aload_n hx hb dX4_firstFault_115 rfl (lv_at hl 1 rfl) ?_
      refine gfX4_1 hx hb hts (fun _ h => List.mem_cons_of_mem _ (List.mem_append_left _ (List.mem_append_right _ h))) hown hK hP (hts (Cond.fieldLink RX4 15 "WhoSpeaks$Tape" "count" "I") (List.mem_of_getElem? (i := 1) rfl)) dX4_firstFault_116 ?_
      refine lv_goto (tgt := 124) hx hb dX4_firstFault_119 (by decide) ?_
      have he := Option.some.inj hf
      exact rI hx hb hr hP hS he hlocks dX4_firstFault_124
    · have hf := (if_neg c23).symm.trans hf
      refine lv_iload hx hb dX4_firstFault_105 (lv_at hl 2 rfl) ?_
      refine lv_if_ne (tgt := 115) hx hb dX4_firstFault_107 (by decide) (fun c24 => ?_) (fun c24 => ?_)
      · have hf := (if_neg c24).symm.trans hf
        refine lv_aload_n hx hb dX4_firstFault_115 rfl (lv_at hl 1 rfl) ?_
        refine gfX4_1 hx hb hts (fun _ h => List.mem_cons_of_mem _ (List.mem_append_left _ (List.mem_append_right _ h))) hown hK hP (hts (Cond.fieldLink RX4 15 "WhoSpeaks$Tape" "count" "I") (List.mem_of_getElem? (i := 1) rfl)) dX4_firstFault_116 ?_
        refine lv_goto (tgt := 124) hx hb dX4_firstFault_119 (by decide) ?_
        have he := Option.some.inj hf
        exact rI hx hb hr hP hS he hlocks dX4_firstFault_124
      · have hf := (if_pos c24).symm.trans hf
        refine lv_iload hx hb dX4_firstFault_110 (lv_at hl 0 rfl) ?_
        refine lv_if_eq (tgt := 122) hx hb dX4_firstFault_112 (by decide) (fun c25 => ?_) (fun c25 => ?_)
        · have hf := (if_pos c25).symm.trans hf
          refine lv_bipush (v := (-9)) hx hb dX4_firstFault_122 (by decide) ?_
          have he := Option.some.inj hf
          exact rI hx hb hr hP hS he hlocks dX4_firstFault_124
        · have hf := (if_neg c25).symm.trans hf
          refine lv_aload_n hx hb dX4_firstFault_115 rfl (lv_at hl 1 rfl) ?_
          refine gfX4_1 hx hb hts (fun _ h => List.mem_cons_of_mem _ (List.mem_append_left _ (List.mem_append_right _ h))) hown hK hP (hts (Cond.fieldLink RX4 15 "WhoSpeaks$Tape" "count" "I") (List.mem_of_getElem? (i := 1) rfl)) dX4_firstFault_116 ?_
          refine lv_goto (tgt := 124) hx hb dX4_firstFault_119 (by decide) ?_
          have he := Option.some.inj hf
          exact rI hx hb hr hP hS he hlocks dX4_firstFault_124
  have K75 : ∀ (x3 : Bool) (s0 : Bool) (S : XS) (H : Heap) (locs : List Loc) (ls : Array Slot), va_P D vwCl (wX cy ad S) H → va_S A s.heap H locs → lv_has ls 6 [(0, .ref (ad 3)), (3, .int (bi x3))] → bX4_firstFault_75  x3 s0 S = some r → W p l e (headSpec wsX4_firstFault { frames := 4, cells := 0, slots := 0, locals := 87 }).room s m args below meth c H locs 0 0 (MQ below (QcI D A r (wX cy ad S)) args s 0 0 A) (F0 m 75 ls [.int (bi s0)]) := by
    intro  x3 s0 S H locs ls hP hS hl hf
    unfold bX4_firstFault_75 at hf
    refine lv_istore (lv' := [(4, .int (bi s0)), (0, .ref (ad 3)), (3, .int (bi x3))]) hx hb dX4_firstFault_75 hl (by decide) rfl (fun ls hl => ?_)
    refine lv_aload_n hx hb dX4_firstFault_77 rfl (lv_at hl 1 rfl) ?_
    refine lv_iconst (v := 0) hx hb dX4_firstFault_78 (by decide) ?_
    obtain ⟨r26, h27, hf⟩ := ob1_some hf
    refine kVi (As := [.int 0]) (rest := []) ⟨hx, hb, hml, hown, hts⟩ (okX4_codeAt l D cy ad A hD 0 S r26 h27) (cwV 1 hts gX4_firstFault_X4_codeAt rfl rfl rfl (by decide +kernel) ⟨Nat.le_of_ble_eq_true rfl, Nat.le_of_ble_eq_true rfl⟩) hK hP hS (va_recv hK.1 hP (ci := 4) (q := (RX4, TX4, 2)) rfl (atX3 cy ad S)) rfl hl.1 rfl (Nat.le_of_ble_eq_true rfl) dX4_firstFault_79 (fun H locs hP hS => ?_)
    refine lv_bipush (v := 43) hx hb dX4_firstFault_82 (by decide) ?_
    refine lv_icmp_ne (tgt := 95) hx hb dX4_firstFault_84 (by decide) (fun c28 => ?_) (fun c28 => ?_)
    · have hf := (if_neg c28).symm.trans hf
      refine lv_iconst (v := 0) hx hb dX4_firstFault_95 (by decide) ?_
      exact K96  (s0) (false) S H locs ls hP hS (lv_sub hl [1, 0] rfl) hf
    · have hf := (if_pos c28).symm.trans hf
      refine lv_iload_n hx hb dX4_firstFault_87 rfl (lv_at hl 2 rfl) ?_
      refine lv_if_ne (tgt := 95) hx hb dX4_firstFault_88 (by decide) (fun c29 => ?_) (fun c29 => ?_)
      · have hf := (if_neg c29).symm.trans hf
        refine lv_iconst (v := 0) hx hb dX4_firstFault_95 (by decide) ?_
        exact K96  (s0) (false) S H locs ls hP hS (lv_sub hl [1, 0] rfl) hf
      · have hf := (if_pos c29).symm.trans hf
        refine lv_iconst (v := 1) hx hb dX4_firstFault_91 (by decide) ?_
        refine lv_goto (tgt := 96) hx hb dX4_firstFault_92 (by decide) ?_
        exact K96  (s0) (true) S H locs ls hP hS (lv_sub hl [1, 0] rfl) hf
  have K5 : ∀ (n : Nat), ∀ (x2 : Bool) (x3 : Bool) (x4 : Int32) (S : XS) (H : Heap) (locs : List Loc) (ls : Array Slot), va_P D vwCl (wX cy ad S) H → va_S A s.heap H locs → lv_has ls 6 [(0, .ref (ad 3)), (1, .ref (ad 1)), (2, .int (bi x2)), (3, .int (bi x3)), (4, .int x4)] → lp (fun k q => bX4_firstFault_5  k q.1 q.2.1 q.2.2.1 q.2.2.2) n (x2, x3, x4, S) = some r → W p l e (headSpec wsX4_firstFault { frames := 4, cells := 0, slots := 0, locals := 87 }).room s m args below meth c H locs 0 0 (MQ below (QcI D A r (wX cy ad S)) args s 0 0 A) (F0 m 5 ls []) := by
    intro  n
    induction n with
    | zero =>
      intro x2 x3 x4 S H locs ls hP hS hl hf
      cases hf
    | succ n ih5 =>
      intro x2 x3 x4 S H locs ls hP hS hl hf
      have hf : bX4_firstFault_5  (lp (fun k q => bX4_firstFault_5  k q.1 q.2.1 q.2.2.1 q.2.2.2) n) x2 x3 x4 S = some r := hf
      generalize lp (fun k q => bX4_firstFault_5  k q.1 q.2.1 q.2.2.1 q.2.2.2) n = k5 at hf ih5
      unfold bX4_firstFault_5 at hf
      refine lv_iload hx hb dX4_firstFault_5 (lv_at hl 4 rfl) ?_
      refine lv_aload_n hx hb dX4_firstFault_7 rfl (lv_at hl 0 rfl) ?_
      refine gfX4_1 hx hb hts (fun _ h => List.mem_cons_of_mem _ (List.mem_append_left _ (List.mem_append_right _ h))) hown hK hP (hts (Cond.fieldLink RX4 15 "WhoSpeaks$Tape" "count" "I") (List.mem_of_getElem? (i := 1) rfl)) dX4_firstFault_8 ?_
      refine lv_icmp_ge (tgt := 55) hx hb dX4_firstFault_11 (by decide) (fun c30 => ?_) (fun c30 => ?_)
      · have hf := (if_pos c30).symm.trans hf
        refine lv_aload_n hx hb dX4_firstFault_55 rfl (lv_at hl 0 rfl) ?_
        refine lv_aload_n hx hb dX4_firstFault_56 rfl (lv_at hl 0 rfl) ?_
        refine gfX4_1 hx hb hts (fun _ h => List.mem_cons_of_mem _ (List.mem_append_left _ (List.mem_append_right _ h))) hown hK hP (hts (Cond.fieldLink RX4 15 "WhoSpeaks$Tape" "count" "I") (List.mem_of_getElem? (i := 1) rfl)) dX4_firstFault_57 ?_
        refine lv_iconst (v := 1) hx hb dX4_firstFault_60 (by decide) ?_
        refine lv_isub hx hb dX4_firstFault_61 ?_
        obtain ⟨r31, h32, hf⟩ := ob1_some hf
        refine kVi (As := [.int ((xi S 3) - 1)]) (rest := []) ⟨hx, hb, hml, hown, hts⟩ (okX4_codeAt l D cy ad A hD ((xi S 3) - 1) S r31 h32) (cwV 1 hts gX4_firstFault_X4_codeAt rfl rfl rfl (by decide +kernel) ⟨Nat.le_of_ble_eq_true rfl, Nat.le_of_ble_eq_true rfl⟩) hK hP hS (va_recv hK.1 hP (ci := 4) (q := (RX4, TX4, 2)) rfl (atX3 cy ad S)) rfl hl.1 rfl (Nat.le_of_ble_eq_true rfl) dX4_firstFault_62 (fun H locs hP hS => ?_)
        refine lv_bipush (v := 64) hx hb dX4_firstFault_65 (by decide) ?_
        refine lv_icmp_ne (tgt := 74) hx hb dX4_firstFault_67 (by decide) (fun c33 => ?_) (fun c33 => ?_)
        · have hf := (if_neg c33).symm.trans hf
          refine lv_iconst (v := 0) hx hb dX4_firstFault_74 (by decide) ?_
          exact K75  (x3) (false) S H locs ls hP hS (lv_sub hl [0, 3] rfl) hf
        · have hf := (if_pos c33).symm.trans hf
          refine lv_iconst (v := 1) hx hb dX4_firstFault_70 (by decide) ?_
          refine lv_goto (tgt := 75) hx hb dX4_firstFault_71 (by decide) ?_
          exact K75  (x3) (true) S H locs ls hP hS (lv_sub hl [0, 3] rfl) hf
      · have hf := (if_neg c30).symm.trans hf
        refine lv_aload_n hx hb dX4_firstFault_14 rfl (lv_at hl 0 rfl) ?_
        refine lv_iload hx hb dX4_firstFault_15 (lv_at hl 4 rfl) ?_
        refine lv_aload_n hx hb dX4_firstFault_17 rfl (lv_at hl 1 rfl) ?_
        refine lv_iload_n hx hb dX4_firstFault_18 rfl (lv_at hl 2 rfl) ?_
        obtain ⟨r34, h35, hf⟩ := ob1_some hf
        refine kVi (As := [.int x4, .ref (ad 1), .int (bi x2)]) (rest := []) ⟨hx, hb, hml, hown, hts⟩ (okX4_mayStand l D cy ad A hD x4 x2 S r34 h35) (cwV 3 hts gX4_firstFault_X4_mayStand rfl rfl rfl (by decide +kernel) ⟨Nat.le_of_ble_eq_true rfl, Nat.le_of_ble_eq_true rfl⟩) hK hP hS (va_recv hK.1 hP (ci := 4) (q := (RX4, TX4, 2)) rfl (atX3 cy ad S)) rfl hl.1 rfl (Nat.le_of_ble_eq_true rfl) dX4_firstFault_19 (fun H locs hP hS => ?_)
        refine lv_if_ne (tgt := 28) hx hb dX4_firstFault_22 (by decide) (fun c36 => ?_) (fun c36 => ?_)
        · have hf := (if_neg c36).symm.trans hf
          refine lv_iload_n hx hb dX4_firstFault_28 rfl (lv_at hl 3 rfl) ?_
          refine lv_if_ne (tgt := 43) hx hb dX4_firstFault_29 (by decide) (fun c37 => ?_) (fun c37 => ?_)
          · have hf := (if_neg c37).symm.trans hf
            refine lv_iconst (v := 1) hx hb dX4_firstFault_43 (by decide) ?_
            refine lv_goto (tgt := 48) hx hb dX4_firstFault_44 (by decide) ?_
            refine lv_istore_n (lv' := [(3, .int 1), (0, .ref (ad 3)), (1, .ref (ad 1)), (2, .int (bi x2)), (4, .int x4)]) hx hb dX4_firstFault_48 rfl hl (by decide) rfl (fun ls hl => ?_)
            refine lv_iinc (v := (x4 + 1)) (lv' := [(4, .int (x4 + 1)), (3, .int 1), (0, .ref (ad 3)), (1, .ref (ad 1)), (2, .int (bi x2))]) hx hb dX4_firstFault_49 hl (k := 4) rfl rfl (by decide) rfl (fun ls hl => ?_)
            refine lv_goto (tgt := 5) hx hb dX4_firstFault_52 (by decide) ?_
            exact ih5 (x2) (true) ((x4 + 1)) S H locs ls hP hS (lv_sub hl [2, 3, 4, 1, 0] rfl) hf
          · have hf := (if_pos c37).symm.trans hf
            refine lv_aload_n hx hb dX4_firstFault_32 rfl (lv_at hl 0 rfl) ?_
            refine lv_iload hx hb dX4_firstFault_33 (lv_at hl 4 rfl) ?_
            obtain ⟨r38, h39, hf⟩ := ob1_some hf
            refine kVi (As := [.int x4]) (rest := []) ⟨hx, hb, hml, hown, hts⟩ (okX4_codeAt l D cy ad A hD x4 S r38 h39) (cwV 1 hts gX4_firstFault_X4_codeAt rfl rfl rfl (by decide +kernel) ⟨Nat.le_of_ble_eq_true rfl, Nat.le_of_ble_eq_true rfl⟩) hK hP hS (va_recv hK.1 hP (ci := 4) (q := (RX4, TX4, 2)) rfl (atX3 cy ad S)) rfl hl.1 rfl (Nat.le_of_ble_eq_true rfl) dX4_firstFault_35 (fun H locs hP hS => ?_)
            refine lv_bipush (v := 113) hx hb dX4_firstFault_38 (by decide) ?_
            refine lv_icmp_ne (tgt := 47) hx hb dX4_firstFault_40 (by decide) (fun c40 => ?_) (fun c40 => ?_)
            · have hf := (if_neg c40).symm.trans hf
              refine lv_iconst (v := 0) hx hb dX4_firstFault_47 (by decide) ?_
              refine lv_istore_n (lv' := [(3, .int 0), (0, .ref (ad 3)), (1, .ref (ad 1)), (2, .int (bi x2)), (4, .int x4)]) hx hb dX4_firstFault_48 rfl hl (by decide) rfl (fun ls hl => ?_)
              refine lv_iinc (v := (x4 + 1)) (lv' := [(4, .int (x4 + 1)), (3, .int 0), (0, .ref (ad 3)), (1, .ref (ad 1)), (2, .int (bi x2))]) hx hb dX4_firstFault_49 hl (k := 4) rfl rfl (by decide) rfl (fun ls hl => ?_)
              refine lv_goto (tgt := 5) hx hb dX4_firstFault_52 (by decide) ?_
              exact ih5 (x2) (false) ((x4 + 1)) S H locs ls hP hS (lv_sub hl [2, 3, 4, 1, 0] rfl) hf
            · have hf := (if_pos c40).symm.trans hf
              refine lv_iconst (v := 1) hx hb dX4_firstFault_43 (by decide) ?_
              refine lv_goto (tgt := 48) hx hb dX4_firstFault_44 (by decide) ?_
              refine lv_istore_n (lv' := [(3, .int 1), (0, .ref (ad 3)), (1, .ref (ad 1)), (2, .int (bi x2)), (4, .int x4)]) hx hb dX4_firstFault_48 rfl hl (by decide) rfl (fun ls hl => ?_)
              refine lv_iinc (v := (x4 + 1)) (lv' := [(4, .int (x4 + 1)), (3, .int 1), (0, .ref (ad 3)), (1, .ref (ad 1)), (2, .int (bi x2))]) hx hb dX4_firstFault_49 hl (k := 4) rfl rfl (by decide) rfl (fun ls hl => ?_)
              refine lv_goto (tgt := 5) hx hb dX4_firstFault_52 (by decide) ?_
              exact ih5 (x2) (true) ((x4 + 1)) S H locs ls hP hS (lv_sub hl [2, 3, 4, 1, 0] rfl) hf
        · have hf := (if_pos c36).symm.trans hf
          refine lv_iload hx hb dX4_firstFault_25 (lv_at hl 4 rfl) ?_
          have he := Option.some.inj hf
          exact rI hx hb hr hP hS he hlocks dX4_firstFault_27
  unfold fX4_firstFault at hf
  suffices hG : ∀ (H : Heap) (locs : List Loc), va_P D vwCl (wX cy ad S) H → va_S A s.heap H locs → W p l e (headSpec wsX4_firstFault { frames := 4, cells := 0, slots := 0, locals := 87 }).room s m args below meth c H locs 0 0 (MQ below (QcI D A r (wX cy ad S)) args s 0 0 A) (F0 m 0 ls []) by exact hG s.heap [] hP va_S.rf
  clear hP hS
  intro H locs hP hS
  refine lv_iconst (v := 0) hx hb dX4_firstFault_0 (by decide) ?_
  refine lv_istore_n (lv' := [(3, .int 0), (0, .ref (ad 3)), (1, .ref (ad 1)), (2, .int (bi p1))]) hx hb dX4_firstFault_1 rfl hl (by decide) rfl (fun ls hl => ?_)
  refine lv_iconst (v := 0) hx hb dX4_firstFault_2 (by decide) ?_
  refine lv_istore (lv' := [(4, .int 0), (3, .int 0), (0, .ref (ad 3)), (1, .ref (ad 1)), (2, .int (bi p1))]) hx hb dX4_firstFault_3 hl (by decide) rfl (fun ls hl => ?_)
  exact K5  FU (p1) (false) (0) S H locs ls hP hS (lv_sub hl [2, 3, 4, 1, 0] rfl) hf

def fX1_forgetAll (i : Nat) (S : XS) : Option XS := (if i < 17 then (bnd (xpW S i 2 0) (fun S13 => (bnd (xpW S13 i 3 0) (fun S14 => (bnd (xpW S14 i 4 0) (fun S15 => (bnd (xpW S15 i 5 (-9)) (fun S16 => (bnd (xpW S16 i 6 0) (fun S17 => (bnd (xpW S17 i 7 0) (fun S18 => (bnd (xpW S18 i 8 0) (fun S19 => (bnd (xpW S19 i 9 0) (fun S20 => (bnd (xpW S20 i 10 255) (fun S21 => (bnd (xpW S21 i 11 0) (fun S22 => (bnd (xpW S22 i 12 0) (fun S23 => (bnd (xpW S23 i 13 255) (fun S24 => (some S24))))))))))))))))))))))))) else none)
set_option maxHeartbeats 4000000 in
set_option maxRecDepth 100000 in
theorem okX1_forgetAll (l : Launch) (D : va_G) (cy : Nat → ClassId) (ad : Nat → Nat) (A : Nat → Prop) (hD : ∀ S, va_D A (wX cy ad S)) (i : Nat) (S : XS) (S' : XS) (hf : fX1_forgetAll i S = some S') : MV l yX1_forgetAll wsX1_forgetAll { frames := 0, cells := 0, slots := 0, locals := 0 } D cy A (wX cy ad S) [.ref (ad (19 + 3 * i))] (wX cy ad S') := by
  refine Met.ofW (cc := cX1_forgetAll) (maxL := 1) (ret := none) (by decide) rfl ?_
  intro p e s m args below meth c s₁ B hml hv
  obtain ⟨ha, hP, hK⟩ := hv
  have hx := B.exec
  have hb := B.bytes
  have hr := B.returns
  have hts := atoms_spec (ws := wsX1_forgetAll) B.pre
  have hown : s.vm.findClass RX1 = some m.cls := findClass_of_methodNamed B.named
  have hlocks := B.notSynchronized
  have hS : va_S A s.heap s.heap [] := va_S.rf
  obtain ⟨ls, hl, he0⟩ := ent (m := m) ha (n := 1) (Nat.le_of_ble_eq_true rfl)
  refine W.eq he0 ?_
  unfold fX1_forgetAll at hf
  obtain ⟨hi, hf⟩ := ck_no hf
  have hl : lv_has ls 1 [(0, .ref (ad (19 + 3 * i)))] := hl
  skip
  suffices hG : ∀ (H : Heap) (locs : List Loc), va_P D vwCl (wX cy ad S) H → va_S A s.heap H locs → W p l e (headSpec wsX1_forgetAll { frames := 0, cells := 0, slots := 0, locals := 0 }).room s m args below meth c H locs 0 0 (MQ below (QcV D A (wX cy ad S')) args s 0 0 A) (F0 m 0 ls []) by exact hG s.heap [] hP va_S.rf
  clear hP hS
  intro H locs hP hS
  refine lv_aload_n hx hb dX1_forgetAll_0 rfl (lv_at hl 0 rfl) ?_
  refine lv_iconst (v := 0) hx hb dX1_forgetAll_1 (by decide) ?_
  refine pfX1_2 (v := 0) hi hx hb hts (fun _ h => List.mem_cons_of_mem _ (List.mem_append_right _ h)) hown hK hP hD hS (hts (Cond.fieldLink RX1 21 "WhoSpeaks$Paragraph" "count" "I") (List.mem_of_getElem? (i := 1) rfl)) dX1_forgetAll_2 (fun S13 eS13 H locs hP hS => ?_)
  have hf := bnd_of eS13 hf
  refine lv_aload_n hx hb dX1_forgetAll_5 rfl (lv_at hl 0 rfl) ?_
  refine lv_iconst (v := 0) hx hb dX1_forgetAll_6 (by decide) ?_
  refine pfX1_3 (v := 0) hi rfl rfl hx hb hts (fun _ h => List.mem_cons_of_mem _ (List.mem_append_right _ h)) hown hK hP hD hS (hts (Cond.fieldLink RX1 25 "WhoSpeaks$Paragraph" "on" "Z") (List.mem_of_getElem? (i := 2) rfl)) dX1_forgetAll_7 (fun S14 eS14 H locs hP hS => ?_)
  have hf := bnd_of eS14 hf
  refine lv_aload_n hx hb dX1_forgetAll_10 rfl (lv_at hl 0 rfl) ?_
  refine lv_iconst (v := 0) hx hb dX1_forgetAll_11 (by decide) ?_
  refine pfX1_4 (v := 0) hi hx hb hts (fun _ h => List.mem_cons_of_mem _ (List.mem_append_right _ h)) hown hK hP hD hS (hts (Cond.fieldLink RX1 29 "WhoSpeaks$Paragraph" "here" "I") (List.mem_of_getElem? (i := 3) rfl)) dX1_forgetAll_12 (fun S15 eS15 H locs hP hS => ?_)
  have hf := bnd_of eS15 hf
  refine lv_aload_n hx hb dX1_forgetAll_15 rfl (lv_at hl 0 rfl) ?_
  refine lv_bipush (v := (-9)) hx hb dX1_forgetAll_16 (by decide) ?_
  refine pfX1_5 (v := (-9)) hi hx hb hts (fun _ h => List.mem_cons_of_mem _ (List.mem_append_right _ h)) hown hK hP hD hS (hts (Cond.fieldLink RX1 32 "WhoSpeaks$Paragraph" "hint" "I") (List.mem_of_getElem? (i := 4) rfl)) dX1_forgetAll_18 (fun S16 eS16 H locs hP hS => ?_)
  have hf := bnd_of eS16 hf
  refine lv_aload_n hx hb dX1_forgetAll_21 rfl (lv_at hl 0 rfl) ?_
  refine lv_iconst (v := 0) hx hb dX1_forgetAll_22 (by decide) ?_
  refine pfX1_6 (v := 0) hi hx hb hts (fun _ h => List.mem_cons_of_mem _ (List.mem_append_right _ h)) hown hK hP hD hS (hts (Cond.fieldLink RX1 35 "WhoSpeaks$Paragraph" "quoteCount" "I") (List.mem_of_getElem? (i := 5) rfl)) dX1_forgetAll_23 (fun S17 eS17 H locs hP hS => ?_)
  have hf := bnd_of eS17 hf
  refine lv_aload_n hx hb dX1_forgetAll_26 rfl (lv_at hl 0 rfl) ?_
  refine lv_iconst (v := 0) hx hb dX1_forgetAll_27 (by decide) ?_
  refine pfX1_7 (v := 0) hi hx hb hts (fun _ h => List.mem_cons_of_mem _ (List.mem_append_right _ h)) hown hK hP hD hS (hts (Cond.fieldLink RX1 38 "WhoSpeaks$Paragraph" "mentioned" "I") (List.mem_of_getElem? (i := 6) rfl)) dX1_forgetAll_28 (fun S18 eS18 H locs hP hS => ?_)
  have hf := bnd_of eS18 hf
  refine lv_aload_n hx hb dX1_forgetAll_31 rfl (lv_at hl 0 rfl) ?_
  refine lv_iconst (v := 0) hx hb dX1_forgetAll_32 (by decide) ?_
  refine pfX1_8 (v := 0) hi hx hb hts (fun _ h => List.mem_cons_of_mem _ (List.mem_append_right _ h)) hown hK hP hD hS (hts (Cond.fieldLink RX1 41 "WhoSpeaks$Paragraph" "spokenTo" "I") (List.mem_of_getElem? (i := 7) rfl)) dX1_forgetAll_33 (fun S19 eS19 H locs hP hS => ?_)
  have hf := bnd_of eS19 hf
  refine lv_aload_n hx hb dX1_forgetAll_36 rfl (lv_at hl 0 rfl) ?_
  refine lv_iconst (v := 0) hx hb dX1_forgetAll_37 (by decide) ?_
  refine pfX1_9 (v := 0) hi hx hb hts (fun _ h => List.mem_cons_of_mem _ (List.mem_append_right _ h)) hown hK hP hD hS (hts (Cond.fieldLink RX1 44 "WhoSpeaks$Paragraph" "verbCount" "I") (List.mem_of_getElem? (i := 8) rfl)) dX1_forgetAll_38 (fun S20 eS20 H locs hP hS => ?_)
  have hf := bnd_of eS20 hf
  refine lv_aload_n hx hb dX1_forgetAll_41 rfl (lv_at hl 0 rfl) ?_
  refine lv_sipush (v := 255) hx hb dX1_forgetAll_42 (by decide) ?_
  refine pfX1_10 (v := 255) hi hx hb hts (fun _ h => List.mem_cons_of_mem _ (List.mem_append_right _ h)) hown hK hP hD hS (hts (Cond.fieldLink RX1 47 "WhoSpeaks$Paragraph" "verbNames" "I") (List.mem_of_getElem? (i := 9) rfl)) dX1_forgetAll_45 (fun S21 eS21 H locs hP hS => ?_)
  have hf := bnd_of eS21 hf
  refine lv_aload_n hx hb dX1_forgetAll_48 rfl (lv_at hl 0 rfl) ?_
  refine lv_iconst (v := 0) hx hb dX1_forgetAll_49 (by decide) ?_
  refine pfX1_11 (v := 0) hi rfl rfl hx hb hts (fun _ h => List.mem_cons_of_mem _ (List.mem_append_right _ h)) hown hK hP hD hS (hts (Cond.fieldLink RX1 50 "WhoSpeaks$Paragraph" "heSpeaks" "Z") (List.mem_of_getElem? (i := 10) rfl)) dX1_forgetAll_50 (fun S22 eS22 H locs hP hS => ?_)
  have hf := bnd_of eS22 hf
  refine lv_aload_n hx hb dX1_forgetAll_53 rfl (lv_at hl 0 rfl) ?_
  refine lv_iconst (v := 0) hx hb dX1_forgetAll_54 (by decide) ?_
  refine pfX1_12 (v := 0) hi rfl rfl hx hb hts (fun _ h => List.mem_cons_of_mem _ (List.mem_append_right _ h)) hown hK hP hD hS (hts (Cond.fieldLink RX1 53 "WhoSpeaks$Paragraph" "sheSpeaks" "Z") (List.mem_of_getElem? (i := 11) rfl)) dX1_forgetAll_55 (fun S23 eS23 H locs hP hS => ?_)
  have hf := bnd_of eS23 hf
  refine lv_aload_n hx hb dX1_forgetAll_58 rfl (lv_at hl 0 rfl) ?_
  refine lv_sipush (v := 255) hx hb dX1_forgetAll_59 (by decide) ?_
  refine pfX1_13 (v := 255) hi hx hb hts (fun _ h => List.mem_cons_of_mem _ (List.mem_append_right _ h)) hown hK hP hD hS (hts (Cond.fieldLink RX1 56 "WhoSpeaks$Paragraph" "doers" "I") (List.mem_of_getElem? (i := 12) rfl)) dX1_forgetAll_62 (fun S24 eS24 H locs hP hS => ?_)
  have hf := bnd_of eS24 hf
  cases hf
  exact rV hx hb hr hP hS hlocks dX1_forgetAll_65

def fX1_kindAt (i : Nat) (p0 : Int32) (S : XS) : Option Int32 := (if i < 17 then (if (bi (fX5_isWithin p0 (xp S i 2))) = 0 then (some (-1)) else (if 12 ≤ p0 then (some (-1)) else (ck p0 12 (some (xq S i 0 p0.toNatClampNeg))))) else none)
set_option maxHeartbeats 4000000 in
set_option maxRecDepth 100000 in
theorem okX1_kindAt (l : Launch) (D : va_G) (cy : Nat → ClassId) (ad : Nat → Nat) (A : Nat → Prop) (hD : ∀ S, va_D A (wX cy ad S)) (i : Nat) (p0 : Int32) (S : XS) (r : Int32) (hf : fX1_kindAt i p0 S = some r) : MI l yX1_kindAt wsX1_kindAt { frames := 1, cells := 0, slots := 0, locals := 21 } D cy A (wX cy ad S) [.ref (ad (19 + 3 * i)), .int p0] r (wX cy ad S) := by
  refine Met.ofW (cc := cX1_kindAt) (maxL := 2) (ret := (some .int)) (by decide) rfl ?_
  intro p e s m args below meth c s₁ B hml hv
  obtain ⟨ha, hP, hK⟩ := hv
  have hx := B.exec
  have hb := B.bytes
  have hr := B.returns
  have hts := atoms_spec (ws := wsX1_kindAt) B.pre
  have hown : s.vm.findClass RX1 = some m.cls := findClass_of_methodNamed B.named
  have hlocks := B.notSynchronized
  have hS : va_S A s.heap s.heap [] := va_S.rf
  obtain ⟨ls, hl, he0⟩ := ent (m := m) ha (n := 2) (Nat.le_of_ble_eq_true rfl)
  refine W.eq he0 ?_
  unfold fX1_kindAt at hf
  obtain ⟨hi, hf⟩ := ck_no hf
  have hl : lv_has ls 2 [(0, .ref (ad (19 + 3 * i))), (1, .int p0)] := hl
  skip
  suffices hG : ∀ (H : Heap) (locs : List Loc), va_P D vwCl (wX cy ad S) H → va_S A s.heap H locs → W p l e (headSpec wsX1_kindAt { frames := 1, cells := 0, slots := 0, locals := 21 }).room s m args below meth c H locs 0 0 (MQ below (QcI D A r (wX cy ad S)) args s 0 0 A) (F0 m 0 ls []) by exact hG s.heap [] hP va_S.rf
  clear hP hS
  intro H locs hP hS
  refine lv_iload_n hx hb dX1_kindAt_0 rfl (lv_at hl 1 rfl) ?_
  refine lv_aload_n hx hb dX1_kindAt_1 rfl (lv_at hl 0 rfl) ?_
  refine gfX1_2 hi hx hb hts (fun _ h => List.mem_cons_of_mem _ (List.mem_append_right _ h)) hown hK hP (hts (Cond.fieldLink RX1 21 "WhoSpeaks$Paragraph" "count" "I") (List.mem_of_getElem? (i := 1) rfl)) dX1_kindAt_2 ?_
  refine kNi (As := [.int p0, .int (xp S i 2)]) (rest := []) ⟨hx, hb, hml, hown, hts⟩ (okX5_isWithin l D cy A (wX cy ad S) p0 (xp S i 2) _ rfl) ⟨va_cnB 2 hts gX1_kindAt_X5_isWithin_n82 rfl rfl rfl hK.2.2.2.2.2.2.2 (hts (Cond.initialized RX5) (List.mem_of_getElem? (i := 4) rfl)) (by decide +kernel) ⟨Nat.le_of_ble_eq_true rfl, Nat.le_of_ble_eq_true rfl⟩, (hts (Cond.static yX5_isWithin) (List.mem_of_getElem? (i := 3) rfl)), trivial⟩ hK hP hS rfl hl.1 rfl (Nat.le_of_ble_eq_true rfl) dX1_kindAt_5 (fun H locs hP hS => ?_)
  refine lv_if_eq (tgt := 29) hx hb dX1_kindAt_8 (by decide) (fun c5 => ?_) (fun c5 => ?_)
  · have hf := (if_pos c5).symm.trans hf
    refine lv_iconst (v := (-1)) hx hb dX1_kindAt_29 (by decide) ?_
    have he := Option.some.inj hf
    exact rI hx hb hr hP hS he hlocks dX1_kindAt_30
  · have hf := (if_neg c5).symm.trans hf
    refine lv_iload_n hx hb dX1_kindAt_11 rfl (lv_at hl 1 rfl) ?_
    refine lv_aload_n hx hb dX1_kindAt_12 rfl (lv_at hl 0 rfl) ?_
    refine gfX1_0 hi hx hb hts (fun _ h => List.mem_cons_of_mem _ (List.mem_append_right _ h)) hown hK hP (hts (Cond.fieldLink RX1 9 "WhoSpeaks$Paragraph" "kinds" "[I") (List.mem_of_getElem? (i := 2) rfl)) dX1_kindAt_13 ?_
    refine anP0 hi hx hb hK hP dX1_kindAt_16 ?_
    refine lv_icmp_ge (tgt := 29) hx hb dX1_kindAt_17 (by decide) (fun c6 => ?_) (fun c6 => ?_)
    · have hf := (if_pos c6).symm.trans hf
      refine lv_iconst (v := (-1)) hx hb dX1_kindAt_29 (by decide) ?_
      have he := Option.some.inj hf
      exact rI hx hb hr hP hS he hlocks dX1_kindAt_30
    · have hf := (if_neg c6).symm.trans hf
      refine lv_aload_n hx hb dX1_kindAt_20 rfl (lv_at hl 0 rfl) ?_
      refine gfX1_0 hi hx hb hts (fun _ h => List.mem_cons_of_mem _ (List.mem_append_right _ h)) hown hK hP (hts (Cond.fieldLink RX1 9 "WhoSpeaks$Paragraph" "kinds" "[I") (List.mem_of_getElem? (i := 2) rfl)) dX1_kindAt_21 ?_
      refine lv_iload_n hx hb dX1_kindAt_24 rfl (lv_at hl 1 rfl) ?_
      obtain ⟨c7, hf⟩ := ck_some hf
      refine alP0 hi hx hb hK hP c7 dX1_kindAt_25 ?_
      refine lv_goto (tgt := 30) hx hb dX1_kindAt_26 (by decide) ?_
      have he := Option.some.inj hf
      exact rI hx hb hr hP hS he hlocks dX1_kindAt_30

def fX1_isWho (p0 : Int32) : Bool := (if p0 = 65 then true else (if p0 = 104 then true else (if p0 = 115 then true else false)))
set_option maxHeartbeats 4000000 in
set_option maxRecDepth 100000 in
theorem okX1_isWho (l : Launch) (D : va_G) (cy : Nat → ClassId) (A : Nat → Prop) (w : va_W) (p0 : Int32) (r : Bool) (hf : fX1_isWho p0 = r) : MI l yX1_isWho wsX1_isWho { frames := 0, cells := 0, slots := 0, locals := 0 } D cy A w [.int p0] (bi r) w := by
  refine Met.ofW (cc := cX1_isWho) (maxL := 1) (ret := (some .boolean)) (by decide) rfl ?_
  intro p e s m args below meth c s₁ B hml hv
  obtain ⟨ha, hP, hK⟩ := hv
  have hx := B.exec
  have hb := B.bytes
  have hr := B.returns
  have hts := atoms_spec (ws := wsX1_isWho) B.pre
  have hown : s.vm.findClass RX1 = some m.cls := findClass_of_methodNamed B.named
  have hlocks := B.notSynchronized
  have hS : va_S A s.heap s.heap [] := va_S.rf
  obtain ⟨ls, hl, he0⟩ := ent (m := m) ha (n := 1) (Nat.le_of_ble_eq_true rfl)
  refine W.eq he0 ?_
  have hl : lv_has ls 1 [(0, .int p0)] := hl
  unfold fX1_isWho at hf
  suffices hG : ∀ (H : Heap) (locs : List Loc), va_P D vwCl w H → va_S A s.heap H locs → W p l e (headSpec wsX1_isWho { frames := 0, cells := 0, slots := 0, locals := 0 }).room s m args below meth c H locs 0 0 (MQ below (QcI D A (bi r) w) args s 0 0 A) (F0 m 0 ls []) by exact hG s.heap [] hP va_S.rf
  clear hP hS
  intro H locs hP hS
  refine lv_iload_n hx hb dX1_isWho_0 rfl (lv_at hl 0 rfl) ?_
  refine lv_bipush (v := 65) hx hb dX1_isWho_1 (by decide) ?_
  refine lv_icmp_eq (tgt := 18) hx hb dX1_isWho_3 (by decide) (fun c4 => ?_) (fun c4 => ?_)
  · have hf := (if_pos c4).symm.trans hf
    refine lv_iconst (v := 1) hx hb dX1_isWho_18 (by decide) ?_
    refine lv_goto (tgt := 23) hx hb dX1_isWho_19 (by decide) ?_
    have he := hf
    exact rZ hx hb hr (bi_nar true) hP hS (congrArg bi he) hlocks dX1_isWho_23
  · have hf := (if_neg c4).symm.trans hf
    refine lv_iload_n hx hb dX1_isWho_6 rfl (lv_at hl 0 rfl) ?_
    refine lv_bipush (v := 104) hx hb dX1_isWho_7 (by decide) ?_
    refine lv_icmp_eq (tgt := 18) hx hb dX1_isWho_9 (by decide) (fun c5 => ?_) (fun c5 => ?_)
    · have hf := (if_pos c5).symm.trans hf
      refine lv_iconst (v := 1) hx hb dX1_isWho_18 (by decide) ?_
      refine lv_goto (tgt := 23) hx hb dX1_isWho_19 (by decide) ?_
      have he := hf
      exact rZ hx hb hr (bi_nar true) hP hS (congrArg bi he) hlocks dX1_isWho_23
    · have hf := (if_neg c5).symm.trans hf
      refine lv_iload_n hx hb dX1_isWho_12 rfl (lv_at hl 0 rfl) ?_
      refine lv_bipush (v := 115) hx hb dX1_isWho_13 (by decide) ?_
      refine lv_icmp_ne (tgt := 22) hx hb dX1_isWho_15 (by decide) (fun c6 => ?_) (fun c6 => ?_)
      · have hf := (if_neg c6).symm.trans hf
        refine lv_iconst (v := 0) hx hb dX1_isWho_22 (by decide) ?_
        have he := hf
        exact rZ hx hb hr (bi_nar false) hP hS (congrArg bi he) hlocks dX1_isWho_23
      · have hf := (if_pos c6).symm.trans hf
        refine lv_iconst (v := 1) hx hb dX1_isWho_18 (by decide) ?_
        refine lv_goto (tgt := 23) hx hb dX1_isWho_19 (by decide) ?_
        have he := hf
        exact rZ hx hb hr (bi_nar true) hP hS (congrArg bi he) hlocks dX1_isWho_23

def fX1_whoPlace (i : Nat) (p0 : Int32) (S : XS) : Option Int32 := (if i < 17 then (ob1 (fX1_kindAt i (p0 + 1) S) (fun r3 => (if (bi (fX1_isWho r3)) = 0 then (ob1 (fX1_kindAt i (p0 - 1) S) (fun r7 => (if (bi (fX1_isWho r7)) = 0 then (some (-9)) else (some (p0 - 1))))) else (some (p0 + 1))))) else none)
set_option maxHeartbeats 4000000 in
set_option maxRecDepth 100000 in
theorem okX1_whoPlace (l : Launch) (D : va_G) (cy : Nat → ClassId) (ad : Nat → Nat) (A : Nat → Prop) (hD : ∀ S, va_D A (wX cy ad S)) (i : Nat) (p0 : Int32) (S : XS) (r : Int32) (hf : fX1_whoPlace i p0 S = some r) : MI l yX1_whoPlace wsX1_whoPlace { frames := 2, cells := 0, slots := 0, locals := 42 } D cy A (wX cy ad S) [.ref (ad (19 + 3 * i)), .int p0] r (wX cy ad S) := by
  refine Met.ofW (cc := cX1_whoPlace) (maxL := 2) (ret := (some .int)) (by decide) rfl ?_
  intro p e s m args below meth c s₁ B hml hv
  obtain ⟨ha, hP, hK⟩ := hv
  have hx := B.exec
  have hb := B.bytes
  have hr := B.returns
  have hts := atoms_spec (ws := wsX1_whoPlace) B.pre
  have hown : s.vm.findClass RX1 = some m.cls := findClass_of_methodNamed B.named
  have hlocks := B.notSynchronized
  have hS : va_S A s.heap s.heap [] := va_S.rf
  obtain ⟨ls, hl, he0⟩ := ent (m := m) ha (n := 2) (Nat.le_of_ble_eq_true rfl)
  refine W.eq he0 ?_
  unfold fX1_whoPlace at hf
  obtain ⟨hi, hf⟩ := ck_no hf
  have hl : lv_has ls 2 [(0, .ref (ad (19 + 3 * i))), (1, .int p0)] := hl
  skip
  suffices hG : ∀ (H : Heap) (locs : List Loc), va_P D vwCl (wX cy ad S) H → va_S A s.heap H locs → W p l e (headSpec wsX1_whoPlace { frames := 2, cells := 0, slots := 0, locals := 42 }).room s m args below meth c H locs 0 0 (MQ below (QcI D A r (wX cy ad S)) args s 0 0 A) (F0 m 0 ls []) by exact hG s.heap [] hP va_S.rf
  clear hP hS
  intro H locs hP hS
  refine lv_aload_n hx hb dX1_whoPlace_0 rfl (lv_at hl 0 rfl) ?_
  refine lv_iload_n hx hb dX1_whoPlace_1 rfl (lv_at hl 1 rfl) ?_
  refine lv_iconst (v := 1) hx hb dX1_whoPlace_2 (by decide) ?_
  refine lv_iadd hx hb dX1_whoPlace_3 ?_
  obtain ⟨r3, h4, hf⟩ := ob1_some hf
  refine kVi (As := [.int (p0 + 1)]) (rest := []) ⟨hx, hb, hml, hown, hts⟩ (okX1_kindAt l D cy ad A hD i (p0 + 1) S r3 h4) (cwV 1 hts gX1_whoPlace_X1_kindAt rfl rfl rfl (by decide +kernel) ⟨Nat.le_of_ble_eq_true rfl, Nat.le_of_ble_eq_true rfl⟩) hK hP hS (va_recv hK.1 hP (ci := 1) (q := (RX1, TX1, 14)) rfl (atP0 cy ad S i hi)) rfl hl.1 rfl (Nat.le_of_ble_eq_true rfl) dX1_whoPlace_4 (fun H locs hP hS => ?_)
  refine kSi (As := [.int r3]) (rest := []) ⟨hx, hb, hml, hown, hts⟩ (okX1_isWho l D cy A (wX cy ad S) r3 _ rfl) (va_cwS 1 hts gX1_whoPlace_X1_isWho rfl rfl rfl (by decide +kernel) ⟨Nat.le_of_ble_eq_true rfl, Nat.le_of_ble_eq_true rfl⟩) hK hP hS rfl hl.1 rfl (Nat.le_of_ble_eq_true rfl) dX1_whoPlace_7 (fun H locs hP hS => ?_)
  refine lv_if_eq (tgt := 17) hx hb dX1_whoPlace_10 (by decide) (fun c6 => ?_) (fun c6 => ?_)
  · have hf := (if_pos c6).symm.trans hf
    refine lv_aload_n hx hb dX1_whoPlace_17 rfl (lv_at hl 0 rfl) ?_
    refine lv_iload_n hx hb dX1_whoPlace_18 rfl (lv_at hl 1 rfl) ?_
    refine lv_iconst (v := 1) hx hb dX1_whoPlace_19 (by decide) ?_
    refine lv_isub hx hb dX1_whoPlace_20 ?_
    obtain ⟨r7, h8, hf⟩ := ob1_some hf
    refine kVi (As := [.int (p0 - 1)]) (rest := []) ⟨hx, hb, hml, hown, hts⟩ (okX1_kindAt l D cy ad A hD i (p0 - 1) S r7 h8) (cwV 1 hts gX1_whoPlace_X1_kindAt rfl rfl rfl (by decide +kernel) ⟨Nat.le_of_ble_eq_true rfl, Nat.le_of_ble_eq_true rfl⟩) hK hP hS (va_recv hK.1 hP (ci := 1) (q := (RX1, TX1, 14)) rfl (atP0 cy ad S i hi)) rfl hl.1 rfl (Nat.le_of_ble_eq_true rfl) dX1_whoPlace_21 (fun H locs hP hS => ?_)
    refine kSi (As := [.int r7]) (rest := []) ⟨hx, hb, hml, hown, hts⟩ (okX1_isWho l D cy A (wX cy ad S) r7 _ rfl) (va_cwS 1 hts gX1_whoPlace_X1_isWho rfl rfl rfl (by decide +kernel) ⟨Nat.le_of_ble_eq_true rfl, Nat.le_of_ble_eq_true rfl⟩) hK hP hS rfl hl.1 rfl (Nat.le_of_ble_eq_true rfl) dX1_whoPlace_24 (fun H locs hP hS => ?_)
    refine lv_if_eq (tgt := 36) hx hb dX1_whoPlace_27 (by decide) (fun c10 => ?_) (fun c10 => ?_)
    · have hf := (if_pos c10).symm.trans hf
      refine lv_bipush (v := (-9)) hx hb dX1_whoPlace_36 (by decide) ?_
      have he := Option.some.inj hf
      exact rI hx hb hr hP hS he hlocks dX1_whoPlace_38
    · have hf := (if_neg c10).symm.trans hf
      refine lv_iload_n hx hb dX1_whoPlace_30 rfl (lv_at hl 1 rfl) ?_
      refine lv_iconst (v := 1) hx hb dX1_whoPlace_31 (by decide) ?_
      refine lv_isub hx hb dX1_whoPlace_32 ?_
      refine lv_goto (tgt := 38) hx hb dX1_whoPlace_33 (by decide) ?_
      have he := Option.some.inj hf
      exact rI hx hb hr hP hS he hlocks dX1_whoPlace_38
  · have hf := (if_neg c6).symm.trans hf
    refine lv_iload_n hx hb dX1_whoPlace_13 rfl (lv_at hl 1 rfl) ?_
    refine lv_iconst (v := 1) hx hb dX1_whoPlace_14 (by decide) ?_
    refine lv_iadd hx hb dX1_whoPlace_15 ?_
    have he := Option.some.inj hf
    exact rI hx hb hr hP hS he hlocks dX1_whoPlace_16

def fX1_verbCounts (i : Nat) (p0 : Int32) (p1 : Int32) (S : XS) : Option Bool := (if i < 17 then (ob1 (fX1_kindAt i p0 S) (fun r7 => (if r7 = 118 then (if p1 = (-9) then (some false) else (bnd (((if p1 < p0 then p1 else p0) - 1)) (fun y11 => (bnd (((if p0 < p1 then p1 else p0) + 1)) (fun y12 => (ob1 (fX1_kindAt i y11 S) (fun r13 => (if r13 = 113 then (some true) else (ob1 (fX1_kindAt i y12 S) (fun r16 => (if r16 = 113 then (some true) else (some false)))))))))))) else (some false)))) else none)
set_option maxHeartbeats 4000000 in
set_option maxRecDepth 100000 in
theorem okX1_verbCounts (l : Launch) (D : va_G) (cy : Nat → ClassId) (ad : Nat → Nat) (A : Nat → Prop) (hD : ∀ S, va_D A (wX cy ad S)) (i : Nat) (p0 : Int32) (p1 : Int32) (S : XS) (r : Bool) (hf : fX1_verbCounts i p0 p1 S = some r) : MI l yX1_verbCounts wsX1_verbCounts { frames := 2, cells := 0, slots := 0, locals := 42 } D cy A (wX cy ad S) [.ref (ad (19 + 3 * i)), .int p0, .int p1] (bi r) (wX cy ad S) := by
  refine Met.ofW (cc := cX1_verbCounts) (maxL := 5) (ret := (some .boolean)) (by decide) rfl ?_
  intro p e s m args below meth c s₁ B hml hv
  obtain ⟨ha, hP, hK⟩ := hv
  have hx := B.exec
  have hb := B.bytes
  have hr := B.returns
  have hts := atoms_spec (ws := wsX1_verbCounts) B.pre
  have hown : s.vm.findClass RX1 = some m.cls := findClass_of_methodNamed B.named
  have hlocks := B.notSynchronized
  have hS : va_S A s.heap s.heap [] := va_S.rf
  obtain ⟨ls, hl, he0⟩ := ent (m := m) ha (n := 5) (Nat.le_of_ble_eq_true rfl)
  refine W.eq he0 ?_
  unfold fX1_verbCounts at hf
  obtain ⟨hi, hf⟩ := ck_no hf
  have hl : lv_has ls 5 [(0, .ref (ad (19 + 3 * i))), (1, .int p0), (2, .int p1)] := hl
  skip
  suffices hG : ∀ (H : Heap) (locs : List Loc), va_P D vwCl (wX cy ad S) H → va_S A s.heap H locs → W p l e (headSpec wsX1_verbCounts { frames := 2, cells := 0, slots := 0, locals := 42 }).room s m args below meth c H locs 0 0 (MQ below (QcI D A (bi r) (wX cy ad S)) args s 0 0 A) (F0 m 0 ls []) by exact hG s.heap [] hP va_S.rf
  clear hP hS
  intro H locs hP hS
  refine lv_aload_n hx hb dX1_verbCounts_0 rfl (lv_at hl 0 rfl) ?_
  refine lv_iload_n hx hb dX1_verbCounts_1 rfl (lv_at hl 1 rfl) ?_
  obtain ⟨r7, h8, hf⟩ := ob1_some hf
  refine kVi (As := [.int p0]) (rest := []) ⟨hx, hb, hml, hown, hts⟩ (okX1_kindAt l D cy ad A hD i p0 S r7 h8) (cwV 1 hts gX1_verbCounts_X1_kindAt rfl rfl rfl (by decide +kernel) ⟨Nat.le_of_ble_eq_true rfl, Nat.le_of_ble_eq_true rfl⟩) hK hP hS (va_recv hK.1 hP (ci := 1) (q := (RX1, TX1, 14)) rfl (atP0 cy ad S i hi)) rfl hl.1 rfl (Nat.le_of_ble_eq_true rfl) dX1_verbCounts_2 (fun H locs hP hS => ?_)
  refine lv_bipush (v := 118) hx hb dX1_verbCounts_5 (by decide) ?_
  refine lv_icmp_ne (tgt := 16) hx hb dX1_verbCounts_7 (by decide) (fun c9 => ?_) (fun c9 => ?_)
  · have hf := (if_neg c9).symm.trans hf
    refine lv_iconst (v := 0) hx hb dX1_verbCounts_16 (by decide) ?_
    have he := Option.some.inj hf
    exact rZ hx hb hr (bi_nar false) hP hS (congrArg bi he) hlocks dX1_verbCounts_17
  · have hf := (if_pos c9).symm.trans hf
    refine lv_iload_n hx hb dX1_verbCounts_10 rfl (lv_at hl 2 rfl) ?_
    refine lv_bipush (v := (-9)) hx hb dX1_verbCounts_11 (by decide) ?_
    refine lv_icmp_ne (tgt := 18) hx hb dX1_verbCounts_13 (by decide) (fun c10 => ?_) (fun c10 => ?_)
    · have hf := (if_neg c10).symm.trans hf
      refine lv_iload_n hx hb dX1_verbCounts_18 rfl (lv_at hl 1 rfl) ?_
      refine lv_iload_n hx hb dX1_verbCounts_19 rfl (lv_at hl 2 rfl) ?_
      refine va_mmin hx hb (by rw [hml]; exact hl.1.symm) hown (hts (Cond.methodLink RX1 104 Lib.Math.min.name) (List.mem_of_getElem? (i := 1) rfl)) (hts (Cond.static Lib.Math.min.name) (List.mem_of_getElem? (i := 2) rfl)) (hts (Cond.initialized "java/lang/Math") (List.mem_of_getElem? (i := 3) rfl)) (hts (Cond.code Lib.Math.min.name Lib.Math.min.code 2 (some .int)) (List.mem_of_getElem? (i := 4) rfl)) (Nat.le_of_ble_eq_true rfl) (Nat.le_of_ble_eq_true rfl) (Nat.zero_le _) (Nat.zero_le _) dX1_verbCounts_20 ?_
      refine lv_iconst (v := 1) hx hb dX1_verbCounts_23 (by decide) ?_
      refine lv_isub hx hb dX1_verbCounts_24 ?_
      refine lv_topi (fun y11 ey11 => ?_)
      have hf := bnd_of ey11 hf
      refine lv_istore_n (lv' := [(3, .int y11), (0, .ref (ad (19 + 3 * i))), (1, .int p0), (2, .int p1)]) hx hb dX1_verbCounts_25 rfl hl (by decide) rfl (fun ls hl => ?_)
      refine lv_iload_n hx hb dX1_verbCounts_26 rfl (lv_at hl 2 rfl) ?_
      refine lv_iload_n hx hb dX1_verbCounts_27 rfl (lv_at hl 3 rfl) ?_
      refine va_mmax hx hb (by rw [hml]; exact hl.1.symm) hown (hts (Cond.methodLink RX1 110 Lib.Math.max.name) (List.mem_of_getElem? (i := 5) rfl)) (hts (Cond.static Lib.Math.max.name) (List.mem_of_getElem? (i := 6) rfl)) (hts (Cond.initialized "java/lang/Math") (List.mem_of_getElem? (i := 3) rfl)) (hts (Cond.code Lib.Math.max.name Lib.Math.max.code 2 (some .int)) (List.mem_of_getElem? (i := 7) rfl)) (Nat.le_of_ble_eq_true rfl) (Nat.le_of_ble_eq_true rfl) (Nat.zero_le _) (Nat.zero_le _) dX1_verbCounts_28 ?_
      refine lv_iconst (v := 1) hx hb dX1_verbCounts_31 (by decide) ?_
      refine lv_iadd hx hb dX1_verbCounts_32 ?_
      refine lv_topi (fun y12 ey12 => ?_)
      have hf := bnd_of ey12 hf
      refine lv_istore (lv' := [(4, .int y12), (3, .int y11), (0, .ref (ad (19 + 3 * i))), (1, .int p0), (2, .int p1)]) hx hb dX1_verbCounts_33 hl (by decide) rfl (fun ls hl => ?_)
      refine lv_aload_n hx hb dX1_verbCounts_35 rfl (lv_at hl 2 rfl) ?_
      refine lv_iload_n hx hb dX1_verbCounts_36 rfl (lv_at hl 1 rfl) ?_
      obtain ⟨r13, h14, hf⟩ := ob1_some hf
      refine kVi (As := [.int y11]) (rest := []) ⟨hx, hb, hml, hown, hts⟩ (okX1_kindAt l D cy ad A hD i y11 S r13 h14) (cwV 1 hts gX1_verbCounts_X1_kindAt rfl rfl rfl (by decide +kernel) ⟨Nat.le_of_ble_eq_true rfl, Nat.le_of_ble_eq_true rfl⟩) hK hP hS (va_recv hK.1 hP (ci := 1) (q := (RX1, TX1, 14)) rfl (atP0 cy ad S i hi)) rfl hl.1 rfl (Nat.le_of_ble_eq_true rfl) dX1_verbCounts_37 (fun H locs hP hS => ?_)
      refine lv_bipush (v := 113) hx hb dX1_verbCounts_40 (by decide) ?_
      refine lv_icmp_eq (tgt := 56) hx hb dX1_verbCounts_42 (by decide) (fun c15 => ?_) (fun c15 => ?_)
      · have hf := (if_pos c15).symm.trans hf
        refine lv_iconst (v := 1) hx hb dX1_verbCounts_56 (by decide) ?_
        refine lv_goto (tgt := 61) hx hb dX1_verbCounts_57 (by decide) ?_
        have he := Option.some.inj hf
        exact rZ hx hb hr (bi_nar true) hP hS (congrArg bi he) hlocks dX1_verbCounts_61
      · have hf := (if_neg c15).symm.trans hf
        refine lv_aload_n hx hb dX1_verbCounts_45 rfl (lv_at hl 2 rfl) ?_
        refine lv_iload hx hb dX1_verbCounts_46 (lv_at hl 0 rfl) ?_
        obtain ⟨r16, h17, hf⟩ := ob1_some hf
        refine kVi (As := [.int y12]) (rest := []) ⟨hx, hb, hml, hown, hts⟩ (okX1_kindAt l D cy ad A hD i y12 S r16 h17) (cwV 1 hts gX1_verbCounts_X1_kindAt rfl rfl rfl (by decide +kernel) ⟨Nat.le_of_ble_eq_true rfl, Nat.le_of_ble_eq_true rfl⟩) hK hP hS (va_recv hK.1 hP (ci := 1) (q := (RX1, TX1, 14)) rfl (atP0 cy ad S i hi)) rfl hl.1 rfl (Nat.le_of_ble_eq_true rfl) dX1_verbCounts_48 (fun H locs hP hS => ?_)
        refine lv_bipush (v := 113) hx hb dX1_verbCounts_51 (by decide) ?_
        refine lv_icmp_ne (tgt := 60) hx hb dX1_verbCounts_53 (by decide) (fun c18 => ?_) (fun c18 => ?_)
        · have hf := (if_neg c18).symm.trans hf
          refine lv_iconst (v := 0) hx hb dX1_verbCounts_60 (by decide) ?_
          have he := Option.some.inj hf
          exact rZ hx hb hr (bi_nar false) hP hS (congrArg bi he) hlocks dX1_verbCounts_61
        · have hf := (if_pos c18).symm.trans hf
          refine lv_iconst (v := 1) hx hb dX1_verbCounts_56 (by decide) ?_
          refine lv_goto (tgt := 61) hx hb dX1_verbCounts_57 (by decide) ?_
          have he := Option.some.inj hf
          exact rZ hx hb hr (bi_nar true) hP hS (congrArg bi he) hlocks dX1_verbCounts_61
    · have hf := (if_pos c10).symm.trans hf
      refine lv_iconst (v := 0) hx hb dX1_verbCounts_16 (by decide) ?_
      have he := Option.some.inj hf
      exact rZ hx hb hr (bi_nar false) hP hS (congrArg bi he) hlocks dX1_verbCounts_17

def fX1_personAt (i : Nat) (p0 : Int32) (S : XS) : Option Int32 := (if i < 17 then (if (bi (fX5_isWithin p0 (xp S i 2))) = 0 then (some (-1)) else (if 12 ≤ p0 then (some (-1)) else (ck p0 12 (some (xq S i 1 p0.toNatClampNeg))))) else none)
set_option maxHeartbeats 4000000 in
set_option maxRecDepth 100000 in
theorem okX1_personAt (l : Launch) (D : va_G) (cy : Nat → ClassId) (ad : Nat → Nat) (A : Nat → Prop) (hD : ∀ S, va_D A (wX cy ad S)) (i : Nat) (p0 : Int32) (S : XS) (r : Int32) (hf : fX1_personAt i p0 S = some r) : MI l yX1_personAt wsX1_personAt { frames := 1, cells := 0, slots := 0, locals := 21 } D cy A (wX cy ad S) [.ref (ad (19 + 3 * i)), .int p0] r (wX cy ad S) := by
  refine Met.ofW (cc := cX1_personAt) (maxL := 2) (ret := (some .int)) (by decide) rfl ?_
  intro p e s m args below meth c s₁ B hml hv
  obtain ⟨ha, hP, hK⟩ := hv
  have hx := B.exec
  have hb := B.bytes
  have hr := B.returns
  have hts := atoms_spec (ws := wsX1_personAt) B.pre
  have hown : s.vm.findClass RX1 = some m.cls := findClass_of_methodNamed B.named
  have hlocks := B.notSynchronized
  have hS : va_S A s.heap s.heap [] := va_S.rf
  obtain ⟨ls, hl, he0⟩ := ent (m := m) ha (n := 2) (Nat.le_of_ble_eq_true rfl)
  refine W.eq he0 ?_
  unfold fX1_personAt at hf
  obtain ⟨hi, hf⟩ := ck_no hf
  have hl : lv_has ls 2 [(0, .ref (ad (19 + 3 * i))), (1, .int p0)] := hl
  skip
  suffices hG : ∀ (H : Heap) (locs : List Loc), va_P D vwCl (wX cy ad S) H → va_S A s.heap H locs → W p l e (headSpec wsX1_personAt { frames := 1, cells := 0, slots := 0, locals := 21 }).room s m args below meth c H locs 0 0 (MQ below (QcI D A r (wX cy ad S)) args s 0 0 A) (F0 m 0 ls []) by exact hG s.heap [] hP va_S.rf
  clear hP hS
  intro H locs hP hS
  refine lv_iload_n hx hb dX1_personAt_0 rfl (lv_at hl 1 rfl) ?_
  refine lv_aload_n hx hb dX1_personAt_1 rfl (lv_at hl 0 rfl) ?_
  refine gfX1_2 hi hx hb hts (fun _ h => List.mem_cons_of_mem _ (List.mem_append_right _ h)) hown hK hP (hts (Cond.fieldLink RX1 21 "WhoSpeaks$Paragraph" "count" "I") (List.mem_of_getElem? (i := 1) rfl)) dX1_personAt_2 ?_
  refine kNi (As := [.int p0, .int (xp S i 2)]) (rest := []) ⟨hx, hb, hml, hown, hts⟩ (okX5_isWithin l D cy A (wX cy ad S) p0 (xp S i 2) _ rfl) ⟨va_cnB 2 hts gX1_personAt_X5_isWithin_n82 rfl rfl rfl hK.2.2.2.2.2.2.2 (hts (Cond.initialized RX5) (List.mem_of_getElem? (i := 4) rfl)) (by decide +kernel) ⟨Nat.le_of_ble_eq_true rfl, Nat.le_of_ble_eq_true rfl⟩, (hts (Cond.static yX5_isWithin) (List.mem_of_getElem? (i := 3) rfl)), trivial⟩ hK hP hS rfl hl.1 rfl (Nat.le_of_ble_eq_true rfl) dX1_personAt_5 (fun H locs hP hS => ?_)
  refine lv_if_eq (tgt := 29) hx hb dX1_personAt_8 (by decide) (fun c5 => ?_) (fun c5 => ?_)
  · have hf := (if_pos c5).symm.trans hf
    refine lv_iconst (v := (-1)) hx hb dX1_personAt_29 (by decide) ?_
    have he := Option.some.inj hf
    exact rI hx hb hr hP hS he hlocks dX1_personAt_30
  · have hf := (if_neg c5).symm.trans hf
    refine lv_iload_n hx hb dX1_personAt_11 rfl (lv_at hl 1 rfl) ?_
    refine lv_aload_n hx hb dX1_personAt_12 rfl (lv_at hl 0 rfl) ?_
    refine gfX1_1 hi hx hb hts (fun _ h => List.mem_cons_of_mem _ (List.mem_append_right _ h)) hown hK hP (hts (Cond.fieldLink RX1 15 "WhoSpeaks$Paragraph" "persons" "[I") (List.mem_of_getElem? (i := 2) rfl)) dX1_personAt_13 ?_
    refine anP1 hi hx hb hK hP dX1_personAt_16 ?_
    refine lv_icmp_ge (tgt := 29) hx hb dX1_personAt_17 (by decide) (fun c6 => ?_) (fun c6 => ?_)
    · have hf := (if_pos c6).symm.trans hf
      refine lv_iconst (v := (-1)) hx hb dX1_personAt_29 (by decide) ?_
      have he := Option.some.inj hf
      exact rI hx hb hr hP hS he hlocks dX1_personAt_30
    · have hf := (if_neg c6).symm.trans hf
      refine lv_aload_n hx hb dX1_personAt_20 rfl (lv_at hl 0 rfl) ?_
      refine gfX1_1 hi hx hb hts (fun _ h => List.mem_cons_of_mem _ (List.mem_append_right _ h)) hown hK hP (hts (Cond.fieldLink RX1 15 "WhoSpeaks$Paragraph" "persons" "[I") (List.mem_of_getElem? (i := 2) rfl)) dX1_personAt_21 ?_
      refine lv_iload_n hx hb dX1_personAt_24 rfl (lv_at hl 1 rfl) ?_
      obtain ⟨c7, hf⟩ := ck_some hf
      refine alP1 hi hx hb hK hP c7 dX1_personAt_25 ?_
      refine lv_goto (tgt := 30) hx hb dX1_personAt_26 (by decide) ?_
      have he := Option.some.inj hf
      exact rI hx hb hr hP hS he hlocks dX1_personAt_30

def fX1_noteWho (i : Nat) (p0 : Int32) (S : XS) : Option XS := (if i < 17 then (ob1 (fX1_kindAt i p0 S) (fun r4 => (if r4 = 65 then (ob1 (fX1_personAt i p0 S) (fun r7 => (bnd (xpW S i 10 ((xp S i 10) &&& (fX5_bitOf r7))) (fun S10 => (some S10))))) else (if r4 = 104 then (bnd (xpW S i 11 1) (fun S12 => (some S12))) else (if r4 = 115 then (bnd (xpW S i 12 1) (fun S14 => (some S14))) else (some S)))))) else none)
set_option maxHeartbeats 4000000 in
set_option maxRecDepth 100000 in
theorem okX1_noteWho (l : Launch) (D : va_G) (cy : Nat → ClassId) (ad : Nat → Nat) (A : Nat → Prop) (hD : ∀ S, va_D A (wX cy ad S)) (i : Nat) (p0 : Int32) (S : XS) (S' : XS) (hf : fX1_noteWho i p0 S = some S') : MV l yX1_noteWho wsX1_noteWho { frames := 2, cells := 0, slots := 0, locals := 42 } D cy A (wX cy ad S) [.ref (ad (19 + 3 * i)), .int p0] (wX cy ad S') := by
  refine Met.ofW (cc := cX1_noteWho) (maxL := 2) (ret := none) (by decide) rfl ?_
  intro p e s m args below meth c s₁ B hml hv
  obtain ⟨ha, hP, hK⟩ := hv
  have hx := B.exec
  have hb := B.bytes
  have hr := B.returns
  have hts := atoms_spec (ws := wsX1_noteWho) B.pre
  have hown : s.vm.findClass RX1 = some m.cls := findClass_of_methodNamed B.named
  have hlocks := B.notSynchronized
  have hS : va_S A s.heap s.heap [] := va_S.rf
  obtain ⟨ls, hl, he0⟩ := ent (m := m) ha (n := 2) (Nat.le_of_ble_eq_true rfl)
  refine W.eq he0 ?_
  unfold fX1_noteWho at hf
  obtain ⟨hi, hf⟩ := ck_no hf
  have hl : lv_has ls 2 [(0, .ref (ad (19 + 3 * i))), (1, .int p0)] := hl
  skip
  suffices hG : ∀ (H : Heap) (locs : List Loc), va_P D vwCl (wX cy ad S) H → va_S A s.heap H locs → W p l e (headSpec wsX1_noteWho { frames := 2, cells := 0, slots := 0, locals := 42 }).room s m args below meth c H locs 0 0 (MQ below (QcV D A (wX cy ad S')) args s 0 0 A) (F0 m 0 ls []) by exact hG s.heap [] hP va_S.rf
  clear hP hS
  intro H locs hP hS
  refine lv_aload_n hx hb dX1_noteWho_0 rfl (lv_at hl 0 rfl) ?_
  refine lv_iload_n hx hb dX1_noteWho_1 rfl (lv_at hl 1 rfl) ?_
  obtain ⟨r4, h5, hf⟩ := ob1_some hf
  refine kVi (As := [.int p0]) (rest := []) ⟨hx, hb, hml, hown, hts⟩ (okX1_kindAt l D cy ad A hD i p0 S r4 h5) (cwV 1 hts gX1_noteWho_X1_kindAt rfl rfl rfl (by decide +kernel) ⟨Nat.le_of_ble_eq_true rfl, Nat.le_of_ble_eq_true rfl⟩) hK hP hS (va_recv hK.1 hP (ci := 1) (q := (RX1, TX1, 14)) rfl (atP0 cy ad S i hi)) rfl hl.1 rfl (Nat.le_of_ble_eq_true rfl) dX1_noteWho_2 (fun H locs hP hS => ?_)
  by_cases c6 : r4 = 65
  · have hf := (if_pos c6).symm.trans hf
    refine lv_lookup (off := 35) (tgt := 40) hx hb dX1_noteWho_5 (by decide) (by rw [c6]; decide) (by decide) ?_
    refine lv_aload_n hx hb dX1_noteWho_40 rfl (lv_at hl 0 rfl) ?_
    refine lv_dup hx hb dX1_noteWho_41 rfl ?_
    refine gfX1_10 hi hx hb hts (fun _ h => List.mem_cons_of_mem _ (List.mem_append_right _ h)) hown hK hP (hts (Cond.fieldLink RX1 47 "WhoSpeaks$Paragraph" "verbNames" "I") (List.mem_of_getElem? (i := 1) rfl)) dX1_noteWho_42 ?_
    refine lv_aload_n hx hb dX1_noteWho_45 rfl (lv_at hl 0 rfl) ?_
    refine lv_iload_n hx hb dX1_noteWho_46 rfl (lv_at hl 1 rfl) ?_
    obtain ⟨r7, h8, hf⟩ := ob1_some hf
    refine kVi (As := [.int p0]) (rest := [.int (xp S i 10), .ref (ad (19 + 3 * i))]) ⟨hx, hb, hml, hown, hts⟩ (okX1_personAt l D cy ad A hD i p0 S r7 h8) (cwV 1 hts gX1_noteWho_X1_personAt rfl rfl rfl (by decide +kernel) ⟨Nat.le_of_ble_eq_true rfl, Nat.le_of_ble_eq_true rfl⟩) hK hP hS (va_recv hK.1 hP (ci := 1) (q := (RX1, TX1, 14)) rfl (atP0 cy ad S i hi)) rfl hl.1 rfl (Nat.le_of_ble_eq_true rfl) dX1_noteWho_47 (fun H locs hP hS => ?_)
    refine kNi (As := [.int r7]) (rest := [.int (xp S i 10), .ref (ad (19 + 3 * i))]) ⟨hx, hb, hml, hown, hts⟩ (okX5_bitOf l D cy A (wX cy ad S) r7 _ rfl) ⟨va_cnB 1 hts gX1_noteWho_X5_bitOf_n86 rfl rfl rfl hK.2.2.2.1 (hts (Cond.initialized RX5) (List.mem_of_getElem? (i := 12) rfl)) (by decide +kernel) ⟨Nat.le_of_ble_eq_true rfl, Nat.le_of_ble_eq_true rfl⟩, (hts (Cond.static yX5_bitOf) (List.mem_of_getElem? (i := 19) rfl)), trivial⟩ hK hP hS rfl hl.1 rfl (Nat.le_of_ble_eq_true rfl) dX1_noteWho_50 (fun H locs hP hS => ?_)
    refine lv_iand hx hb dX1_noteWho_53 ?_
    refine pfX1_10 (v := ((xp S i 10) &&& (fX5_bitOf r7))) hi hx hb hts (fun _ h => List.mem_cons_of_mem _ (List.mem_append_right _ h)) hown hK hP hD hS (hts (Cond.fieldLink RX1 47 "WhoSpeaks$Paragraph" "verbNames" "I") (List.mem_of_getElem? (i := 1) rfl)) dX1_noteWho_54 (fun S10 eS10 H locs hP hS => ?_)
    have hf := bnd_of eS10 hf
    refine lv_goto (tgt := 76) hx hb dX1_noteWho_57 (by decide) ?_
    cases hf
    exact rV hx hb hr hP hS hlocks dX1_noteWho_76
  · have hf := (if_neg c6).symm.trans hf
    by_cases c11 : r4 = 104
    · have hf := (if_pos c11).symm.trans hf
      refine lv_lookup (off := 55) (tgt := 60) hx hb dX1_noteWho_5 (by decide) (by rw [c11]; decide) (by decide) ?_
      refine lv_aload_n hx hb dX1_noteWho_60 rfl (lv_at hl 0 rfl) ?_
      refine lv_iconst (v := 1) hx hb dX1_noteWho_61 (by decide) ?_
      refine pfX1_11 (v := 1) hi rfl rfl hx hb hts (fun _ h => List.mem_cons_of_mem _ (List.mem_append_right _ h)) hown hK hP hD hS (hts (Cond.fieldLink RX1 50 "WhoSpeaks$Paragraph" "heSpeaks" "Z") (List.mem_of_getElem? (i := 2) rfl)) dX1_noteWho_62 (fun S12 eS12 H locs hP hS => ?_)
      have hf := bnd_of eS12 hf
      refine lv_goto (tgt := 76) hx hb dX1_noteWho_65 (by decide) ?_
      cases hf
      exact rV hx hb hr hP hS hlocks dX1_noteWho_76
    · have hf := (if_neg c11).symm.trans hf
      by_cases c13 : r4 = 115
      · have hf := (if_pos c13).symm.trans hf
        refine lv_lookup (off := 63) (tgt := 68) hx hb dX1_noteWho_5 (by decide) (by rw [c13]; decide) (by decide) ?_
        refine lv_aload_n hx hb dX1_noteWho_68 rfl (lv_at hl 0 rfl) ?_
        refine lv_iconst (v := 1) hx hb dX1_noteWho_69 (by decide) ?_
        refine pfX1_12 (v := 1) hi rfl rfl hx hb hts (fun _ h => List.mem_cons_of_mem _ (List.mem_append_right _ h)) hown hK hP hD hS (hts (Cond.fieldLink RX1 53 "WhoSpeaks$Paragraph" "sheSpeaks" "Z") (List.mem_of_getElem? (i := 3) rfl)) dX1_noteWho_70 (fun S14 eS14 H locs hP hS => ?_)
        have hf := bnd_of eS14 hf
        refine lv_goto (tgt := 76) hx hb dX1_noteWho_73 (by decide) ?_
        cases hf
        exact rV hx hb hr hP hS hlocks dX1_noteWho_76
      · have hf := (if_neg c13).symm.trans hf
        refine lv_lookup (off := 71) (tgt := 76) hx hb dX1_noteWho_5 (by decide) ?_ (by decide) ?_
        · have n65 := ne_toInt c6
          have z65 : (65 : Int32).toInt = 65 := rfl
          have n104 := ne_toInt c11
          have z104 : (104 : Int32).toInt = 104 := rfl
          have n115 := ne_toInt c13
          have z115 : (115 : Int32).toInt = 115 := rfl
          show Op.lookupswitch.offset [(65, 35), (104, 55), (115, 63)] 71 r4.toInt = 71
          rw [Op.lookupswitch.offset_cons, if_neg (by omega), Op.lookupswitch.offset_cons, if_neg (by omega), Op.lookupswitch.offset_cons, if_neg (by omega), Op.lookupswitch.offset_nil]
        · cases hf
          exact rV hx hb hr hP hS hlocks dX1_noteWho_76

def bX1_noteVerbs_2  (k2 : Int32 × XS → Option XS) (i : Nat) (x1 : Int32) (S : XS) : Option XS := (if (xp S i 2) ≤ x1 then (some S) else (ob1 (fX1_whoPlace i x1 S) (fun r11 => (ob1 (fX1_verbCounts i x1 r11 S) (fun r13 => (if (bi r13) = 0 then (k2 ((x1 + 1), S)) else (bnd (xpW S i 9 ((xp S i 9) + 1)) (fun S16 => (ob1 (fX1_noteWho i r11 S16) (fun S18 => (k2 ((x1 + 1), S18))))))))))))
def fX1_noteVerbs (i : Nat) (S : XS) : Option XS := (if i < 17 then (lp (fun k q => bX1_noteVerbs_2  k i q.1 q.2) FU (0, S)) else none)
set_option maxHeartbeats 4000000 in
set_option maxRecDepth 100000 in
theorem okX1_noteVerbs (l : Launch) (D : va_G) (cy : Nat → ClassId) (ad : Nat → Nat) (A : Nat → Prop) (hD : ∀ S, va_D A (wX cy ad S)) (i : Nat) (S : XS) (S' : XS) (hf : fX1_noteVerbs i S = some S') : MV l yX1_noteVerbs wsX1_noteVerbs { frames := 3, cells := 0, slots := 0, locals := 66 } D cy A (wX cy ad S) [.ref (ad (19 + 3 * i))] (wX cy ad S') := by
  refine Met.ofW (cc := cX1_noteVerbs) (maxL := 3) (ret := none) (by decide) rfl ?_
  intro p e s m args below meth c s₁ B hml hv
  obtain ⟨ha, hP, hK⟩ := hv
  have hx := B.exec
  have hb := B.bytes
  have hr := B.returns
  have hts := atoms_spec (ws := wsX1_noteVerbs) B.pre
  have hown : s.vm.findClass RX1 = some m.cls := findClass_of_methodNamed B.named
  have hlocks := B.notSynchronized
  have hS : va_S A s.heap s.heap [] := va_S.rf
  obtain ⟨ls, hl, he0⟩ := ent (m := m) ha (n := 3) (Nat.le_of_ble_eq_true rfl)
  refine W.eq he0 ?_
  unfold fX1_noteVerbs at hf
  obtain ⟨hi, hf⟩ := ck_no hf
  have hl : lv_has ls 3 [(0, .ref (ad (19 + 3 * i)))] := hl
  have K2 : ∀ (n : Nat), ∀ (x1 : Int32) (S : XS) (H : Heap) (locs : List Loc) (ls : Array Slot), va_P D vwCl (wX cy ad S) H → va_S A s.heap H locs → lv_has ls 3 [(0, .ref (ad (19 + 3 * i))), (1, .int x1)] → lp (fun k q => bX1_noteVerbs_2  k i q.1 q.2) n (x1, S) = some S' → W p l e (headSpec wsX1_noteVerbs { frames := 3, cells := 0, slots := 0, locals := 66 }).room s m args below meth c H locs 0 0 (MQ below (QcV D A (wX cy ad S')) args s 0 0 A) (F0 m 2 ls []) := by
    intro  n
    induction n with
    | zero =>
      intro x1 S H locs ls hP hS hl hf
      cases hf
    | succ n ih2 =>
      intro x1 S H locs ls hP hS hl hf
      have hf : bX1_noteVerbs_2  (lp (fun k q => bX1_noteVerbs_2  k i q.1 q.2) n) i x1 S = some S' := hf
      generalize lp (fun k q => bX1_noteVerbs_2  k i q.1 q.2) n = k2 at hf ih2
      unfold bX1_noteVerbs_2 at hf
      refine lv_iload_n hx hb dX1_noteVerbs_2 rfl (lv_at hl 1 rfl) ?_
      refine lv_aload_n hx hb dX1_noteVerbs_3 rfl (lv_at hl 0 rfl) ?_
      refine gfX1_2 hi hx hb hts (fun _ h => List.mem_cons_of_mem _ (List.mem_append_right _ h)) hown hK hP (hts (Cond.fieldLink RX1 21 "WhoSpeaks$Paragraph" "count" "I") (List.mem_of_getElem? (i := 1) rfl)) dX1_noteVerbs_4 ?_
      refine lv_icmp_ge (tgt := 46) hx hb dX1_noteVerbs_7 (by decide) (fun c10 => ?_) (fun c10 => ?_)
      · have hf := (if_pos c10).symm.trans hf
        cases hf
        exact rV hx hb hr hP hS hlocks dX1_noteVerbs_46
      · have hf := (if_neg c10).symm.trans hf
        refine lv_aload_n hx hb dX1_noteVerbs_10 rfl (lv_at hl 0 rfl) ?_
        refine lv_iload_n hx hb dX1_noteVerbs_11 rfl (lv_at hl 1 rfl) ?_
        obtain ⟨r11, h12, hf⟩ := ob1_some hf
        refine kVi (As := [.int x1]) (rest := []) ⟨hx, hb, hml, hown, hts⟩ (okX1_whoPlace l D cy ad A hD i x1 S r11 h12) (cwV 1 hts gX1_noteVerbs_X1_whoPlace rfl rfl rfl (by decide +kernel) ⟨Nat.le_of_ble_eq_true rfl, Nat.le_of_ble_eq_true rfl⟩) hK hP hS (va_recv hK.1 hP (ci := 1) (q := (RX1, TX1, 14)) rfl (atP0 cy ad S i hi)) rfl hl.1 rfl (Nat.le_of_ble_eq_true rfl) dX1_noteVerbs_12 (fun H locs hP hS => ?_)
        refine lv_istore_n (lv' := [(2, .int r11), (0, .ref (ad (19 + 3 * i))), (1, .int x1)]) hx hb dX1_noteVerbs_15 rfl hl (by decide) rfl (fun ls hl => ?_)
        refine lv_aload_n hx hb dX1_noteVerbs_16 rfl (lv_at hl 1 rfl) ?_
        refine lv_iload_n hx hb dX1_noteVerbs_17 rfl (lv_at hl 2 rfl) ?_
        refine lv_iload_n hx hb dX1_noteVerbs_18 rfl (lv_at hl 0 rfl) ?_
        obtain ⟨r13, h14, hf⟩ := ob1_some hf
        refine kVi (As := [.int x1, .int r11]) (rest := []) ⟨hx, hb, hml, hown, hts⟩ (okX1_verbCounts l D cy ad A hD i x1 r11 S r13 h14) (cwV 2 hts gX1_noteVerbs_X1_verbCounts rfl rfl rfl (by decide +kernel) ⟨Nat.le_of_ble_eq_true rfl, Nat.le_of_ble_eq_true rfl⟩) hK hP hS (va_recv hK.1 hP (ci := 1) (q := (RX1, TX1, 14)) rfl (atP0 cy ad S i hi)) rfl hl.1 rfl (Nat.le_of_ble_eq_true rfl) dX1_noteVerbs_19 (fun H locs hP hS => ?_)
        refine lv_if_eq (tgt := 40) hx hb dX1_noteVerbs_22 (by decide) (fun c15 => ?_) (fun c15 => ?_)
        · have hf := (if_pos c15).symm.trans hf
          refine lv_iinc (v := (x1 + 1)) (lv' := [(1, .int (x1 + 1)), (2, .int r11), (0, .ref (ad (19 + 3 * i)))]) hx hb dX1_noteVerbs_40 hl (k := 2) rfl rfl (by decide) rfl (fun ls hl => ?_)
          refine lv_goto (tgt := 2) hx hb dX1_noteVerbs_43 (by decide) ?_
          exact ih2 ((x1 + 1)) S H locs ls hP hS (lv_sub hl [2, 0] rfl) hf
        · have hf := (if_neg c15).symm.trans hf
          refine lv_aload_n hx hb dX1_noteVerbs_25 rfl (lv_at hl 1 rfl) ?_
          refine lv_dup hx hb dX1_noteVerbs_26 rfl ?_
          refine gfX1_9 hi hx hb hts (fun _ h => List.mem_cons_of_mem _ (List.mem_append_right _ h)) hown hK hP (hts (Cond.fieldLink RX1 44 "WhoSpeaks$Paragraph" "verbCount" "I") (List.mem_of_getElem? (i := 2) rfl)) dX1_noteVerbs_27 ?_
          refine lv_iconst (v := 1) hx hb dX1_noteVerbs_30 (by decide) ?_
          refine lv_iadd hx hb dX1_noteVerbs_31 ?_
          refine pfX1_9 (v := ((xp S i 9) + 1)) hi hx hb hts (fun _ h => List.mem_cons_of_mem _ (List.mem_append_right _ h)) hown hK hP hD hS (hts (Cond.fieldLink RX1 44 "WhoSpeaks$Paragraph" "verbCount" "I") (List.mem_of_getElem? (i := 2) rfl)) dX1_noteVerbs_32 (fun S16 eS16 H locs hP hS => ?_)
          have hf := bnd_of eS16 hf
          refine lv_aload_n hx hb dX1_noteVerbs_35 rfl (lv_at hl 1 rfl) ?_
          refine lv_iload_n hx hb dX1_noteVerbs_36 rfl (lv_at hl 0 rfl) ?_
          obtain ⟨S18, h17, hf⟩ := ob1_some hf
          refine kVv (As := [.int r11]) (rest := []) ⟨hx, hb, hml, hown, hts⟩ (okX1_noteWho l D cy ad A hD i r11 S16 S18 h17) (cwV 1 hts gX1_noteVerbs_X1_noteWho rfl rfl rfl (by decide +kernel) ⟨Nat.le_of_ble_eq_true rfl, Nat.le_of_ble_eq_true rfl⟩) hK hP hS (va_recv hK.1 hP (ci := 1) (q := (RX1, TX1, 14)) rfl (atP0 cy ad S16 i hi)) rfl hl.1 rfl (Nat.le_of_ble_eq_true rfl) dX1_noteVerbs_37 (fun H locs hP hS => ?_)
          refine lv_iinc (v := (x1 + 1)) (lv' := [(1, .int (x1 + 1)), (2, .int r11), (0, .ref (ad (19 + 3 * i)))]) hx hb dX1_noteVerbs_40 hl (k := 2) rfl rfl (by decide) rfl (fun ls hl => ?_)
          refine lv_goto (tgt := 2) hx hb dX1_noteVerbs_43 (by decide) ?_
          exact ih2 ((x1 + 1)) S18 H locs ls hP hS (lv_sub hl [2, 0] rfl) hf
  skip
  suffices hG : ∀ (H : Heap) (locs : List Loc), va_P D vwCl (wX cy ad S) H → va_S A s.heap H locs → W p l e (headSpec wsX1_noteVerbs { frames := 3, cells := 0, slots := 0, locals := 66 }).room s m args below meth c H locs 0 0 (MQ below (QcV D A (wX cy ad S')) args s 0 0 A) (F0 m 0 ls []) by exact hG s.heap [] hP va_S.rf
  clear hP hS
  intro H locs hP hS
  refine lv_iconst (v := 0) hx hb dX1_noteVerbs_0 (by decide) ?_
  refine lv_istore_n (lv' := [(1, .int 0), (0, .ref (ad (19 + 3 * i)))]) hx hb dX1_noteVerbs_1 rfl hl (by decide) rfl (fun ls hl => ?_)
  exact K2  FU (0) S H locs ls hP hS (lv_sub hl [1, 0] rfl) hf
