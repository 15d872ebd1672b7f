def bX0_firstHadBy_2  (k2 : Int32 × Int32 × XS → Option Int32) (x1 : Int32) (x2 : Int32) (S : XS) : Option Int32 := (if (xi S 5) ≤ x2 then (some (-9)) else (ob1 (fX0_isHadBy x2 x1 S) (fun r8 => (if (bi r8) = 0 then (k2 (x1, (x2 + 1), S)) else (some x2)))))
def fX0_firstHadBy (p0 : Int32) (S : XS) : Option Int32 := (lp (fun k q => bX0_firstHadBy_2  k q.1 q.2.1 q.2.2) FU (p0, 0, S))
set_option maxHeartbeats 4000000 in
set_option maxRecDepth 100000 in
theorem okX0_firstHadBy (l : Launch) (D : va_G) (cy : Nat → ClassId) (ad : Nat → Nat) (A : Nat → Prop) (hD : ∀ S, va_D A (wX cy ad S)) (p0 : Int32) (S : XS) (r : Int32) (hf : fX0_firstHadBy p0 S = some r) : MI l yX0_firstHadBy wsX0_firstHadBy { frames := 4, cells := 0, slots := 0, locals := 85 } D cy A (wX cy ad S) [.ref (ad 7), .int p0] r (wX cy ad S) := by
  refine Met.ofW (cc := cX0_firstHadBy) (maxL := 3) (ret := (some .int)) (by decide) rfl ?_
  intro p e s m args below meth c s₁ B hml hv
  obtain ⟨ha, hP, hK⟩ := hv
  have hx := B.exec
  have hb := B.bytes
  have hr := B.returns
  have hts := atoms_spec (ws := wsX0_firstHadBy) B.pre
  have hown : s.vm.findClass RX0 = some m.cls := findClass_of_methodNamed B.named
  have hlocks := B.notSynchronized
  have hS : va_S A s.heap s.heap [] := va_S.rf
  obtain ⟨ls, hl, he0⟩ := ent (m := m) ha (n := 3) (Nat.le_of_ble_eq_true rfl)
  refine W.eq he0 ?_
  have hl : lv_has ls 3 [(0, .ref (ad 7)), (1, .int p0)] := hl
  have K2 : ∀ (n : Nat), ∀ (x1 : Int32) (x2 : Int32) (S : XS) (H : Heap) (locs : List Loc) (ls : Array Slot), va_P D vwCl (wX cy ad S) H → va_S A s.heap H locs → lv_has ls 3 [(0, .ref (ad 7)), (1, .int x1), (2, .int x2)] → lp (fun k q => bX0_firstHadBy_2  k q.1 q.2.1 q.2.2) n (x1, x2, S) = some r → W p l e (headSpec wsX0_firstHadBy { frames := 4, cells := 0, slots := 0, locals := 85 }).room s m args below meth c H locs 0 0 (MQ below (QcI D A r (wX cy ad S)) args s 0 0 A) (F0 m 2 ls []) := by
    intro  n
    induction n with
    | zero =>
      intro x1 x2 S H locs ls hP hS hl hf
      cases hf
    | succ n ih2 =>
      intro x1 x2 S H locs ls hP hS hl hf
      have hf : bX0_firstHadBy_2  (lp (fun k q => bX0_firstHadBy_2  k q.1 q.2.1 q.2.2) n) x1 x2 S = some r := hf
      generalize lp (fun k q => bX0_firstHadBy_2  k q.1 q.2.1 q.2.2) n = k2 at hf ih2
      unfold bX0_firstHadBy_2 at hf
      refine lv_iload_n hx hb dX0_firstHadBy_2 rfl (lv_at hl 2 rfl) ?_
      refine lv_aload_n hx hb dX0_firstHadBy_3 rfl (lv_at hl 0 rfl) ?_
      refine gfX0_8 hx hb hts (fun _ h => List.mem_cons_of_mem _ (List.mem_append_right _ h)) hown hK hP (hts (Cond.fieldLink RX0 38 "WhoSpeaks$Chain" "count" "I") (List.mem_of_getElem? (i := 1) rfl)) dX0_firstHadBy_4 ?_
      refine lv_icmp_ge (tgt := 27) hx hb dX0_firstHadBy_7 (by decide) (fun c7 => ?_) (fun c7 => ?_)
      · have hf := (if_pos c7).symm.trans hf
        refine lv_bipush (v := (-9)) hx hb dX0_firstHadBy_27 (by decide) ?_
        have he := Option.some.inj hf
        exact rI hx hb hr hP hS he hlocks dX0_firstHadBy_29
      · have hf := (if_neg c7).symm.trans hf
        refine lv_aload_n hx hb dX0_firstHadBy_10 rfl (lv_at hl 0 rfl) ?_
        refine lv_iload_n hx hb dX0_firstHadBy_11 rfl (lv_at hl 2 rfl) ?_
        refine lv_iload_n hx hb dX0_firstHadBy_12 rfl (lv_at hl 1 rfl) ?_
        obtain ⟨r8, h9, hf⟩ := ob1_some hf
        refine kVi (As := [.int x2, .int x1]) (rest := []) ⟨hx, hb, hml, hown, hts⟩ (okX0_isHadBy l D cy ad A hD x2 x1 S r8 h9) (cwV 2 hts gX0_firstHadBy_X0_isHadBy rfl rfl rfl (by decide +kernel) ⟨Nat.le_of_ble_eq_true rfl, Nat.le_of_ble_eq_true rfl⟩) hK hP hS (va_recv hK.1 hP (ci := 0) (q := (RX0, TX0, 9)) rfl (atX7 cy ad S)) rfl hl.1 rfl (Nat.le_of_ble_eq_true rfl) dX0_firstHadBy_13 (fun H locs hP hS => ?_)
        refine lv_if_eq (tgt := 21) hx hb dX0_firstHadBy_16 (by decide) (fun c10 => ?_) (fun c10 => ?_)
        · have hf := (if_pos c10).symm.trans hf
          refine lv_iinc (v := (x2 + 1)) (lv' := [(2, .int (x2 + 1)), (0, .ref (ad 7)), (1, .int x1)]) hx hb dX0_firstHadBy_21 hl (k := 2) rfl rfl (by decide) rfl (fun ls hl => ?_)
          refine lv_goto (tgt := 2) hx hb dX0_firstHadBy_24 (by decide) ?_
          exact ih2 (x1) ((x2 + 1)) S H locs ls hP hS (lv_sub hl [1, 2, 0] rfl) hf
        · have hf := (if_neg c10).symm.trans hf
          refine lv_iload_n hx hb dX0_firstHadBy_19 rfl (lv_at hl 2 rfl) ?_
          have he := Option.some.inj hf
          exact rI hx hb hr hP hS he hlocks dX0_firstHadBy_20
  unfold fX0_firstHadBy at hf
  suffices hG : ∀ (H : Heap) (locs : List Loc), va_P D vwCl (wX cy ad S) H → va_S A s.heap H locs → W p l e (headSpec wsX0_firstHadBy { frames := 4, cells := 0, slots := 0, locals := 85 }).room s m args below meth c H locs 0 0 (MQ below (QcI D A r (wX cy ad S)) args s 0 0 A) (F0 m 0 ls []) by exact hG s.heap [] hP va_S.rf
  clear hP hS
  intro H locs hP hS
  refine lv_iconst (v := 0) hx hb dX0_firstHadBy_0 (by decide) ?_
  refine lv_istore_n (lv' := [(2, .int 0), (0, .ref (ad 7)), (1, .int p0)]) hx hb dX0_firstHadBy_1 rfl hl (by decide) rfl (fun ls hl => ?_)
  exact K2  FU (p0) (0) S H locs ls hP hS (lv_sub hl [1, 2, 0] rfl) hf

def bX0_lastHadBy_7  (k7 : Int32 × Int32 × XS → Option Int32) (x1 : Int32) (x2 : Int32) (S : XS) : Option Int32 := (if x2 < 0 then (some (-9)) else (ob1 (fX0_isHadBy x2 x1 S) (fun r6 => (if (bi r6) = 0 then (k7 (x1, (x2 + (-1)), S)) else (some x2)))))
def fX0_lastHadBy (p0 : Int32) (S : XS) : Option Int32 := (bnd (((xi S 5) - 1)) (fun y9 => (lp (fun k q => bX0_lastHadBy_7  k q.1 q.2.1 q.2.2) FU (p0, y9, S))))
set_option maxHeartbeats 4000000 in
set_option maxRecDepth 100000 in
theorem okX0_lastHadBy (l : Launch) (D : va_G) (cy : Nat → ClassId) (ad : Nat → Nat) (A : Nat → Prop) (hD : ∀ S, va_D A (wX cy ad S)) (p0 : Int32) (S : XS) (r : Int32) (hf : fX0_lastHadBy p0 S = some r) : MI l yX0_lastHadBy wsX0_lastHadBy { frames := 4, cells := 0, slots := 0, locals := 85 } D cy A (wX cy ad S) [.ref (ad 7), .int p0] r (wX cy ad S) := by
  refine Met.ofW (cc := cX0_lastHadBy) (maxL := 3) (ret := (some .int)) (by decide) rfl ?_
  intro p e s m args below meth c s₁ B hml hv
  obtain ⟨ha, hP, hK⟩ := hv
  have hx := B.exec
  have hb := B.bytes
  have hr := B.returns
  have hts := atoms_spec (ws := wsX0_lastHadBy) B.pre
  have hown : s.vm.findClass RX0 = some m.cls := findClass_of_methodNamed B.named
  have hlocks := B.notSynchronized
  have hS : va_S A s.heap s.heap [] := va_S.rf
  obtain ⟨ls, hl, he0⟩ := ent (m := m) ha (n := 3) (Nat.le_of_ble_eq_true rfl)
  refine W.eq he0 ?_
  have hl : lv_has ls 3 [(0, .ref (ad 7)), (1, .int p0)] := hl
  have K7 : ∀ (n : Nat), ∀ (x1 : Int32) (x2 : Int32) (S : XS) (H : Heap) (locs : List Loc) (ls : Array Slot), va_P D vwCl (wX cy ad S) H → va_S A s.heap H locs → lv_has ls 3 [(0, .ref (ad 7)), (1, .int x1), (2, .int x2)] → lp (fun k q => bX0_lastHadBy_7  k q.1 q.2.1 q.2.2) n (x1, x2, S) = some r → W p l e (headSpec wsX0_lastHadBy { frames := 4, cells := 0, slots := 0, locals := 85 }).room s m args below meth c H locs 0 0 (MQ below (QcI D A r (wX cy ad S)) args s 0 0 A) (F0 m 7 ls []) := by
    intro  n
    induction n with
    | zero =>
      intro x1 x2 S H locs ls hP hS hl hf
      cases hf
    | succ n ih7 =>
      intro x1 x2 S H locs ls hP hS hl hf
      have hf : bX0_lastHadBy_7  (lp (fun k q => bX0_lastHadBy_7  k q.1 q.2.1 q.2.2) n) x1 x2 S = some r := hf
      generalize lp (fun k q => bX0_lastHadBy_7  k q.1 q.2.1 q.2.2) n = k7 at hf ih7
      unfold bX0_lastHadBy_7 at hf
      refine lv_iload_n hx hb dX0_lastHadBy_7 rfl (lv_at hl 2 rfl) ?_
      refine lv_if_lt (tgt := 28) hx hb dX0_lastHadBy_8 (by decide) (fun c5 => ?_) (fun c5 => ?_)
      · have hf := (if_pos c5).symm.trans hf
        refine lv_bipush (v := (-9)) hx hb dX0_lastHadBy_28 (by decide) ?_
        have he := Option.some.inj hf
        exact rI hx hb hr hP hS he hlocks dX0_lastHadBy_30
      · have hf := (if_neg c5).symm.trans hf
        refine lv_aload_n hx hb dX0_lastHadBy_11 rfl (lv_at hl 0 rfl) ?_
        refine lv_iload_n hx hb dX0_lastHadBy_12 rfl (lv_at hl 2 rfl) ?_
        refine lv_iload_n hx hb dX0_lastHadBy_13 rfl (lv_at hl 1 rfl) ?_
        obtain ⟨r6, h7, hf⟩ := ob1_some hf
        refine kVi (As := [.int x2, .int x1]) (rest := []) ⟨hx, hb, hml, hown, hts⟩ (okX0_isHadBy l D cy ad A hD x2 x1 S r6 h7) (cwV 2 hts gX0_lastHadBy_X0_isHadBy rfl rfl rfl (by decide +kernel) ⟨Nat.le_of_ble_eq_true rfl, Nat.le_of_ble_eq_true rfl⟩) hK hP hS (va_recv hK.1 hP (ci := 0) (q := (RX0, TX0, 9)) rfl (atX7 cy ad S)) rfl hl.1 rfl (Nat.le_of_ble_eq_true rfl) dX0_lastHadBy_14 (fun H locs hP hS => ?_)
        refine lv_if_eq (tgt := 22) hx hb dX0_lastHadBy_17 (by decide) (fun c8 => ?_) (fun c8 => ?_)
        · have hf := (if_pos c8).symm.trans hf
          refine lv_iinc (v := (x2 + (-1))) (lv' := [(2, .int (x2 + (-1))), (0, .ref (ad 7)), (1, .int x1)]) hx hb dX0_lastHadBy_22 hl (k := 2) rfl rfl (by decide) rfl (fun ls hl => ?_)
          refine lv_goto (tgt := 7) hx hb dX0_lastHadBy_25 (by decide) ?_
          exact ih7 (x1) ((x2 + (-1))) S H locs ls hP hS (lv_sub hl [1, 2, 0] rfl) hf
        · have hf := (if_neg c8).symm.trans hf
          refine lv_iload_n hx hb dX0_lastHadBy_20 rfl (lv_at hl 2 rfl) ?_
          have he := Option.some.inj hf
          exact rI hx hb hr hP hS he hlocks dX0_lastHadBy_21
  unfold fX0_lastHadBy at hf
  suffices hG : ∀ (H : Heap) (locs : List Loc), va_P D vwCl (wX cy ad S) H → va_S A s.heap H locs → W p l e (headSpec wsX0_lastHadBy { frames := 4, cells := 0, slots := 0, locals := 85 }).room s m args below meth c H locs 0 0 (MQ below (QcI D A r (wX cy ad S)) args s 0 0 A) (F0 m 0 ls []) by exact hG s.heap [] hP va_S.rf
  clear hP hS
  intro H locs hP hS
  refine lv_aload_n hx hb dX0_lastHadBy_0 rfl (lv_at hl 0 rfl) ?_
  refine gfX0_8 hx hb hts (fun _ h => List.mem_cons_of_mem _ (List.mem_append_right _ h)) hown hK hP (hts (Cond.fieldLink RX0 38 "WhoSpeaks$Chain" "count" "I") (List.mem_of_getElem? (i := 1) rfl)) dX0_lastHadBy_1 ?_
  refine lv_iconst (v := 1) hx hb dX0_lastHadBy_4 (by decide) ?_
  refine lv_isub hx hb dX0_lastHadBy_5 ?_
  refine lv_topi (fun y9 ey9 => ?_)
  have hf := bnd_of ey9 hf
  refine lv_istore_n (lv' := [(2, .int y9), (0, .ref (ad 7)), (1, .int p0)]) hx hb dX0_lastHadBy_6 rfl hl (by decide) rfl (fun ls hl => ?_)
  exact K7  FU (p0) (y9) S H locs ls hP hS (lv_sub hl [1, 2, 0] rfl) hf

def fX5_ofPerson (p0 : Int32) (p1 : Int32) (S : XS) : Option (Int32 × XS) := (if (bi (fX2_isThere p0 S)) = 0 then (some ((-1), S)) else (if p1 < 0 then (some ((-2), S)) else (if p1 ≤ 5 then (if p1 = 0 then (ob1 (fX2_sortOf p0 S) (fun r31 => (some (r31, S)))) else (if p1 = 5 then (if ((xi S 0) &&& (fX5_bitOf p0)) = 0 then (some (0, S)) else (some (1, S))) else (ob1 (fX5_fillChain  S) (fun S14 => (ob2 (fX0_countWays  S14) (fun r15 S17 => (if p1 = 1 then (ob1 (fX0_hadBy p0 S17) (fun r21 => (some (r21, S17)))) else (if p1 = 2 then (ob1 (fX0_maybeHadBy p0 S17) (fun r24 => (some (r24, S17)))) else (if p1 = 3 then (ob1 (fX0_firstHadBy p0 S17) (fun r27 => (some (r27, S17)))) else (ob1 (fX0_lastHadBy p0 S17) (fun r18 => (some (r18, S17))))))))))))) else (some ((-2), S)))))
set_option maxHeartbeats 4000000 in
set_option maxRecDepth 100000 in
theorem okX5_ofPerson (l : Launch) (D : va_G) (cy : Nat → ClassId) (ad : Nat → Nat) (A : Nat → Prop) (hD : ∀ S, va_D A (wX cy ad S)) (p0 : Int32) (p1 : Int32) (S : XS) (r : Int32) (S' : XS) (hf : fX5_ofPerson p0 p1 S = some (r, S')) : MI l yX5_ofPerson wsX5_ofPerson { frames := 6, cells := 0, slots := 0, locals := 146 } D cy A (wX cy ad S) [.ref (ad 0), .int p0, .int p1] r (wX cy ad S') := by
  refine Met.ofW (cc := cX5_ofPerson) (maxL := 3) (ret := (some .int)) (by decide) rfl ?_
  intro p e s m args below meth c s₁ B hml hv
  obtain ⟨ha, hP, hK⟩ := hv
  have hx := B.exec
  have hb := B.bytes
  have hr := B.returns
  have hts := atoms_spec (ws := wsX5_ofPerson) B.pre
  have hown : s.vm.findClass RX5 = some m.cls := findClass_of_methodNamed B.named
  have hlocks := B.notSynchronized
  have hS : va_S A s.heap s.heap [] := va_S.rf
  obtain ⟨ls, hl, he0⟩ := ent (m := m) ha (n := 3) (Nat.le_of_ble_eq_true rfl)
  refine W.eq he0 ?_
  have hl : lv_has ls 3 [(0, .ref (ad 0)), (1, .int p0), (2, .int p1)] := hl
  unfold fX5_ofPerson at hf
  suffices hG : ∀ (H : Heap) (locs : List Loc), va_P D vwCl (wX cy ad S) H → va_S A s.heap H locs → W p l e (headSpec wsX5_ofPerson { frames := 6, cells := 0, slots := 0, locals := 146 }).room s m args below meth c H locs 0 0 (MQ below (QcI D A r (wX cy ad S')) args s 0 0 A) (F0 m 0 ls []) by exact hG s.heap [] hP va_S.rf
  clear hP hS
  intro H locs hP hS
  refine lv_aload_n hx hb dX5_ofPerson_0 rfl (lv_at hl 0 rfl) ?_
  refine gfX5_0 hx hb hts (fun _ h => List.mem_cons_of_mem _ (List.mem_append_left _ (List.mem_append_left _ (List.mem_append_left _ (List.mem_append_left _ (List.mem_append_right _ h)))))) hown hK hP (hts (Cond.fieldLink RX5 12 "WhoSpeaks" "people" "LWhoSpeaks$People;") (List.mem_of_getElem? (i := 1) rfl)) dX5_ofPerson_1 ?_
  refine lv_iload_n hx hb dX5_ofPerson_4 rfl (lv_at hl 1 rfl) ?_
  refine kVi (As := [.int p0]) (rest := []) ⟨hx, hb, hml, hown, hts⟩ (okX2_isThere l D cy ad A hD p0 S _ rfl) (cwV 1 hts gX5_ofPerson_X2_isThere rfl rfl rfl (by decide +kernel) ⟨Nat.le_of_ble_eq_true rfl, Nat.le_of_ble_eq_true rfl⟩) hK hP hS (va_recv hK.1 hP (ci := 2) (q := (RX2, TX2, 2)) rfl (atX1 cy ad S)) rfl hl.1 rfl (Nat.le_of_ble_eq_true rfl) dX5_ofPerson_5 (fun H locs hP hS => ?_)
  refine lv_if_ne (tgt := 13) hx hb dX5_ofPerson_8 (by decide) (fun c8 => ?_) (fun c8 => ?_)
  · have hf := (if_neg c8).symm.trans hf
    refine lv_iload_n hx hb dX5_ofPerson_13 rfl (lv_at hl 2 rfl) ?_
    refine lv_if_lt (tgt := 22) hx hb dX5_ofPerson_14 (by decide) (fun c9 => ?_) (fun c9 => ?_)
    · have hf := (if_pos c9).symm.trans hf
      refine lv_bipush (v := (-2)) hx hb dX5_ofPerson_22 (by decide) ?_
      obtain ⟨he, hS9⟩ := Prod.mk.inj (Option.some.inj hf)
      subst hS9
      exact rI hx hb hr hP hS he hlocks dX5_ofPerson_24
    · have hf := (if_neg c9).symm.trans hf
      refine lv_iload_n hx hb dX5_ofPerson_17 rfl (lv_at hl 2 rfl) ?_
      refine lv_iconst (v := 5) hx hb dX5_ofPerson_18 (by decide) ?_
      refine lv_icmp_le (tgt := 25) hx hb dX5_ofPerson_19 (by decide) (fun c10 => ?_) (fun c10 => ?_)
      · have hf := (if_pos c10).symm.trans hf
        refine lv_iload_n hx hb dX5_ofPerson_25 rfl (lv_at hl 2 rfl) ?_
        refine lv_if_ne (tgt := 38) hx hb dX5_ofPerson_26 (by decide) (fun c11 => ?_) (fun c11 => ?_)
        · have hf := (if_neg c11).symm.trans hf
          refine lv_iload_n hx hb dX5_ofPerson_38 rfl (lv_at hl 2 rfl) ?_
          refine lv_iconst (v := 5) hx hb dX5_ofPerson_39 (by decide) ?_
          refine lv_icmp_ne (tgt := 61) hx hb dX5_ofPerson_40 (by decide) (fun c12 => ?_) (fun c12 => ?_)
          · have hf := (if_neg c12).symm.trans hf
            refine lv_aload_n hx hb dX5_ofPerson_61 rfl (lv_at hl 0 rfl) ?_
            obtain ⟨S14, h13, hf⟩ := ob1_some hf
            refine kVv (As := []) (rest := []) ⟨hx, hb, hml, hown, hts⟩ (okX5_fillChain l D cy ad A hD  S S14 h13) (cwV 0 hts gX5_ofPerson_X5_fillChain rfl rfl rfl (by decide +kernel) ⟨Nat.le_of_ble_eq_true rfl, Nat.le_of_ble_eq_true rfl⟩) hK hP hS (va_recv hK.1 hP (ci := 5) (q := (RX5, TX5, 9)) rfl (atX0 cy ad S)) rfl hl.1 rfl (Nat.le_of_ble_eq_true rfl) dX5_ofPerson_62 (fun H locs hP hS => ?_)
            refine lv_aload_n hx hb dX5_ofPerson_65 rfl (lv_at hl 0 rfl) ?_
            refine gfX5_3 hx hb hts (fun _ h => List.mem_cons_of_mem _ (List.mem_append_left _ (List.mem_append_left _ (List.mem_append_left _ (List.mem_append_left _ (List.mem_append_right _ h)))))) hown hK hP (hts (Cond.fieldLink RX5 33 "WhoSpeaks" "chain" "LWhoSpeaks$Chain;") (List.mem_of_getElem? (i := 3) rfl)) dX5_ofPerson_66 ?_
            obtain ⟨r15, S17, h16, hf⟩ := ob2_some hf
            refine kVl (As := []) (rest := []) ⟨hx, hb, hml, hown, hts⟩ (okX0_countWays l D cy ad A hD  S14 r15 S17 h16) (cwV 0 hts gX5_ofPerson_X0_countWays rfl rfl rfl (by decide +kernel) ⟨Nat.le_of_ble_eq_true rfl, Nat.le_of_ble_eq_true rfl⟩) hK hP hS (va_recv hK.1 hP (ci := 0) (q := (RX0, TX0, 9)) rfl (atX7 cy ad S14)) rfl hl.1 rfl (Nat.le_of_ble_eq_true rfl) dX5_ofPerson_69 (fun H locs hP hS => ?_)
            refine lv_pop2_2 hx hb dX5_ofPerson_72 rfl ?_
            refine lv_iload_n hx hb dX5_ofPerson_73 rfl (lv_at hl 2 rfl) ?_
            by_cases c20 : p1 = 1
            · have hf := (if_pos c20).symm.trans hf
              refine lv_tableIn (off := 26) (tgt := 100) hx hb dX5_ofPerson_74 (by rw [c20]; decide) (by rw [c20]; decide) (by rw [c20]; rfl) (by decide) ?_
              refine lv_aload_n hx hb dX5_ofPerson_100 rfl (lv_at hl 0 rfl) ?_
              refine gfX5_3 hx hb hts (fun _ h => List.mem_cons_of_mem _ (List.mem_append_left _ (List.mem_append_left _ (List.mem_append_left _ (List.mem_append_left _ (List.mem_append_right _ h)))))) hown hK hP (hts (Cond.fieldLink RX5 33 "WhoSpeaks" "chain" "LWhoSpeaks$Chain;") (List.mem_of_getElem? (i := 3) rfl)) dX5_ofPerson_101 ?_
              refine lv_iload_n hx hb dX5_ofPerson_104 rfl (lv_at hl 1 rfl) ?_
              obtain ⟨r21, h22, hf⟩ := ob1_some hf
              refine kVi (As := [.int p0]) (rest := []) ⟨hx, hb, hml, hown, hts⟩ (okX0_hadBy l D cy ad A hD p0 S17 r21 h22) (cwV 1 hts gX5_ofPerson_X0_hadBy rfl rfl rfl (by decide +kernel) ⟨Nat.le_of_ble_eq_true rfl, Nat.le_of_ble_eq_true rfl⟩) hK hP hS (va_recv hK.1 hP (ci := 0) (q := (RX0, TX0, 9)) rfl (atX7 cy ad S17)) rfl hl.1 rfl (Nat.le_of_ble_eq_true rfl) dX5_ofPerson_105 (fun H locs hP hS => ?_)
              obtain ⟨he, hS9⟩ := Prod.mk.inj (Option.some.inj hf)
              subst hS9
              exact rI hx hb hr hP hS he hlocks dX5_ofPerson_108
            · have hf := (if_neg c20).symm.trans hf
              by_cases c23 : p1 = 2
              · have hf := (if_pos c23).symm.trans hf
                refine lv_tableIn (off := 35) (tgt := 109) hx hb dX5_ofPerson_74 (by rw [c23]; decide) (by rw [c23]; decide) (by rw [c23]; rfl) (by decide) ?_
                refine lv_aload_n hx hb dX5_ofPerson_109 rfl (lv_at hl 0 rfl) ?_
                refine gfX5_3 hx hb hts (fun _ h => List.mem_cons_of_mem _ (List.mem_append_left _ (List.mem_append_left _ (List.mem_append_left _ (List.mem_append_left _ (List.mem_append_right _ h)))))) hown hK hP (hts (Cond.fieldLink RX5 33 "WhoSpeaks" "chain" "LWhoSpeaks$Chain;") (List.mem_of_getElem? (i := 3) rfl)) dX5_ofPerson_110 ?_
                refine lv_iload_n hx hb dX5_ofPerson_113 rfl (lv_at hl 1 rfl) ?_
                obtain ⟨r24, h25, hf⟩ := ob1_some hf
                refine kVi (As := [.int p0]) (rest := []) ⟨hx, hb, hml, hown, hts⟩ (okX0_maybeHadBy l D cy ad A hD p0 S17 r24 h25) (cwV 1 hts gX5_ofPerson_X0_maybeHadBy rfl rfl rfl (by decide +kernel) ⟨Nat.le_of_ble_eq_true rfl, Nat.le_of_ble_eq_true rfl⟩) hK hP hS (va_recv hK.1 hP (ci := 0) (q := (RX0, TX0, 9)) rfl (atX7 cy ad S17)) rfl hl.1 rfl (Nat.le_of_ble_eq_true rfl) dX5_ofPerson_114 (fun H locs hP hS => ?_)
                obtain ⟨he, hS9⟩ := Prod.mk.inj (Option.some.inj hf)
                subst hS9
                exact rI hx hb hr hP hS he hlocks dX5_ofPerson_117
              · have hf := (if_neg c23).symm.trans hf
                by_cases c26 : p1 = 3
                · have hf := (if_pos c26).symm.trans hf
                  refine lv_tableIn (off := 44) (tgt := 118) hx hb dX5_ofPerson_74 (by rw [c26]; decide) (by rw [c26]; decide) (by rw [c26]; rfl) (by decide) ?_
                  refine lv_aload_n hx hb dX5_ofPerson_118 rfl (lv_at hl 0 rfl) ?_
                  refine gfX5_3 hx hb hts (fun _ h => List.mem_cons_of_mem _ (List.mem_append_left _ (List.mem_append_left _ (List.mem_append_left _ (List.mem_append_left _ (List.mem_append_right _ h)))))) hown hK hP (hts (Cond.fieldLink RX5 33 "WhoSpeaks" "chain" "LWhoSpeaks$Chain;") (List.mem_of_getElem? (i := 3) rfl)) dX5_ofPerson_119 ?_
                  refine lv_iload_n hx hb dX5_ofPerson_122 rfl (lv_at hl 1 rfl) ?_
                  obtain ⟨r27, h28, hf⟩ := ob1_some hf
                  refine kVi (As := [.int p0]) (rest := []) ⟨hx, hb, hml, hown, hts⟩ (okX0_firstHadBy l D cy ad A hD p0 S17 r27 h28) (cwV 1 hts gX5_ofPerson_X0_firstHadBy rfl rfl rfl (by decide +kernel) ⟨Nat.le_of_ble_eq_true rfl, Nat.le_of_ble_eq_true rfl⟩) hK hP hS (va_recv hK.1 hP (ci := 0) (q := (RX0, TX0, 9)) rfl (atX7 cy ad S17)) rfl hl.1 rfl (Nat.le_of_ble_eq_true rfl) dX5_ofPerson_123 (fun H locs hP hS => ?_)
                  obtain ⟨he, hS9⟩ := Prod.mk.inj (Option.some.inj hf)
                  subst hS9
                  exact rI hx hb hr hP hS he hlocks dX5_ofPerson_126
                · have hf := (if_neg c26).symm.trans hf
                  refine lv_tableOut (tgt := 127) hx hb dX5_ofPerson_74 (by have n1 := ne_toInt c20; have z1 : (1 : Int32).toInt = 1 := rfl; have n2 := ne_toInt c23; have z2 : (2 : Int32).toInt = 2 := rfl; have n3 := ne_toInt c26; have z3 : (3 : Int32).toInt = 3 := rfl; omega) (by decide) ?_
                  refine lv_aload_n hx hb dX5_ofPerson_127 rfl (lv_at hl 0 rfl) ?_
                  refine gfX5_3 hx hb hts (fun _ h => List.mem_cons_of_mem _ (List.mem_append_left _ (List.mem_append_left _ (List.mem_append_left _ (List.mem_append_left _ (List.mem_append_right _ h)))))) hown hK hP (hts (Cond.fieldLink RX5 33 "WhoSpeaks" "chain" "LWhoSpeaks$Chain;") (List.mem_of_getElem? (i := 3) rfl)) dX5_ofPerson_128 ?_
                  refine lv_iload_n hx hb dX5_ofPerson_131 rfl (lv_at hl 1 rfl) ?_
                  obtain ⟨r18, h19, hf⟩ := ob1_some hf
                  refine kVi (As := [.int p0]) (rest := []) ⟨hx, hb, hml, hown, hts⟩ (okX0_lastHadBy l D cy ad A hD p0 S17 r18 h19) (cwV 1 hts gX5_ofPerson_X0_lastHadBy rfl rfl rfl (by decide +kernel) ⟨Nat.le_of_ble_eq_true rfl, Nat.le_of_ble_eq_true rfl⟩) hK hP hS (va_recv hK.1 hP (ci := 0) (q := (RX0, TX0, 9)) rfl (atX7 cy ad S17)) rfl hl.1 rfl (Nat.le_of_ble_eq_true rfl) dX5_ofPerson_132 (fun H locs hP hS => ?_)
                  obtain ⟨he, hS9⟩ := Prod.mk.inj (Option.some.inj hf)
                  subst hS9
                  exact rI hx hb hr hP hS he hlocks dX5_ofPerson_135
          · have hf := (if_pos c12).symm.trans hf
            refine lv_aload_n hx hb dX5_ofPerson_43 rfl (lv_at hl 0 rfl) ?_
            refine gfX5_7 hx hb hts (fun _ h => List.mem_cons_of_mem _ (List.mem_append_left _ (List.mem_append_left _ (List.mem_append_left _ (List.mem_append_left _ (List.mem_append_right _ h)))))) hown hK hP (hts (Cond.fieldLink RX5 47 "WhoSpeaks" "hereSet" "I") (List.mem_of_getElem? (i := 2) rfl)) dX5_ofPerson_44 ?_
            refine lv_iload_n hx hb dX5_ofPerson_47 rfl (lv_at hl 1 rfl) ?_
            refine kSi (As := [.int p0]) (rest := [.int (xi S 0)]) ⟨hx, hb, hml, hown, hts⟩ (okX5_bitOf l D cy A (wX cy ad S) p0 _ rfl) (va_cwS 1 hts gX5_ofPerson_X5_bitOf rfl rfl rfl (by decide +kernel) ⟨Nat.le_of_ble_eq_true rfl, Nat.le_of_ble_eq_true rfl⟩) hK hP hS rfl hl.1 rfl (Nat.le_of_ble_eq_true rfl) dX5_ofPerson_48 (fun H locs hP hS => ?_)
            refine lv_iand hx hb dX5_ofPerson_51 ?_
            refine lv_if_eq (tgt := 59) hx hb dX5_ofPerson_52 (by decide) (fun c30 => ?_) (fun c30 => ?_)
            · have hf := (if_pos c30).symm.trans hf
              refine lv_iconst (v := 0) hx hb dX5_ofPerson_59 (by decide) ?_
              obtain ⟨he, hS9⟩ := Prod.mk.inj (Option.some.inj hf)
              subst hS9
              exact rI hx hb hr hP hS he hlocks dX5_ofPerson_60
            · have hf := (if_neg c30).symm.trans hf
              refine lv_iconst (v := 1) hx hb dX5_ofPerson_55 (by decide) ?_
              refine lv_goto (tgt := 60) hx hb dX5_ofPerson_56 (by decide) ?_
              obtain ⟨he, hS9⟩ := Prod.mk.inj (Option.some.inj hf)
              subst hS9
              exact rI hx hb hr hP hS he hlocks dX5_ofPerson_60
        · have hf := (if_pos c11).symm.trans hf
          refine lv_aload_n hx hb dX5_ofPerson_29 rfl (lv_at hl 0 rfl) ?_
          refine gfX5_0 hx hb hts (fun _ h => List.mem_cons_of_mem _ (List.mem_append_left _ (List.mem_append_left _ (List.mem_append_left _ (List.mem_append_left _ (List.mem_append_right _ h)))))) hown hK hP (hts (Cond.fieldLink RX5 12 "WhoSpeaks" "people" "LWhoSpeaks$People;") (List.mem_of_getElem? (i := 1) rfl)) dX5_ofPerson_30 ?_
          refine lv_iload_n hx hb dX5_ofPerson_33 rfl (lv_at hl 1 rfl) ?_
          obtain ⟨r31, h32, hf⟩ := ob1_some hf
          refine kVi (As := [.int p0]) (rest := []) ⟨hx, hb, hml, hown, hts⟩ (okX2_sortOf l D cy ad A hD p0 S r31 h32) (cwV 1 hts gX5_ofPerson_X2_sortOf rfl rfl rfl (by decide +kernel) ⟨Nat.le_of_ble_eq_true rfl, Nat.le_of_ble_eq_true rfl⟩) hK hP hS (va_recv hK.1 hP (ci := 2) (q := (RX2, TX2, 2)) rfl (atX1 cy ad S)) rfl hl.1 rfl (Nat.le_of_ble_eq_true rfl) dX5_ofPerson_34 (fun H locs hP hS => ?_)
          obtain ⟨he, hS9⟩ := Prod.mk.inj (Option.some.inj hf)
          subst hS9
          exact rI hx hb hr hP hS he hlocks dX5_ofPerson_37
      · have hf := (if_neg c10).symm.trans hf
        refine lv_bipush (v := (-2)) hx hb dX5_ofPerson_22 (by decide) ?_
        obtain ⟨he, hS9⟩ := Prod.mk.inj (Option.some.inj hf)
        subst hS9
        exact rI hx hb hr hP hS he hlocks dX5_ofPerson_24
  · have hf := (if_pos c8).symm.trans hf
    refine lv_iconst (v := (-1)) hx hb dX5_ofPerson_11 (by decide) ?_
    obtain ⟨he, hS9⟩ := Prod.mk.inj (Option.some.inj hf)
    subst hS9
    exact rI hx hb hr hP hS he hlocks dX5_ofPerson_12

def fX5_ranksAhead (p0 : Int32) (p1 : Int32) (S : XS) : Option Bool := (if (bi (fX5_isWithin p0 8)) = 0 then (some false) else (if (bi (fX5_isWithin p1 8)) = 0 then (some false) else (ck p0 8 (ck p1 8 (if (xa S 17 p0.toNatClampNeg) = (xa S 17 p1.toNatClampNeg) then (ck p0 8 (ck p1 8 (if (xa S 18 p0.toNatClampNeg) = (xa S 18 p1.toNatClampNeg) then (if p1 ≤ p0 then (some false) else (some true)) else (ck p0 8 (ck p1 8 (if (xa S 18 p0.toNatClampNeg) ≤ (xa S 18 p1.toNatClampNeg) then (some false) else (some true))))))) else (ck p0 8 (ck p1 8 (if (xa S 17 p0.toNatClampNeg) ≤ (xa S 17 p1.toNatClampNeg) then (some false) else (some true)))))))))
set_option maxHeartbeats 4000000 in
set_option maxRecDepth 100000 in
theorem okX5_ranksAhead (l : Launch) (D : va_G) (cy : Nat → ClassId) (ad : Nat → Nat) (A : Nat → Prop) (hD : ∀ S, va_D A (wX cy ad S)) (p0 : Int32) (p1 : Int32) (S : XS) (r : Bool) (hf : fX5_ranksAhead p0 p1 S = some r) : MI l yX5_ranksAhead wsX5_ranksAhead { frames := 1, cells := 0, slots := 0, locals := 21 } D cy A (wX cy ad S) [.ref (ad 0), .int p0, .int p1] (bi r) (wX cy ad S) := by
  refine Met.ofW (cc := cX5_ranksAhead) (maxL := 3) (ret := (some .boolean)) (by decide) rfl ?_
  intro p e s m args below meth c s₁ B hml hv
  obtain ⟨ha, hP, hK⟩ := hv
  have hx := B.exec
  have hb := B.bytes
  have hr := B.returns
  have hts := atoms_spec (ws := wsX5_ranksAhead) B.pre
  have hown : s.vm.findClass RX5 = some m.cls := findClass_of_methodNamed B.named
  have hlocks := B.notSynchronized
  have hS : va_S A s.heap s.heap [] := va_S.rf
  obtain ⟨ls, hl, he0⟩ := ent (m := m) ha (n := 3) (Nat.le_of_ble_eq_true rfl)
  refine W.eq he0 ?_
  have hl : lv_has ls 3 [(0, .ref (ad 0)), (1, .int p0), (2, .int p1)] := hl
  unfold fX5_ranksAhead at hf
  suffices hG : ∀ (H : Heap) (locs : List Loc), va_P D vwCl (wX cy ad S) H → va_S A s.heap H locs → W p l e (headSpec wsX5_ranksAhead { frames := 1, cells := 0, slots := 0, locals := 21 }).room s m args below meth c H locs 0 0 (MQ below (QcI D A (bi r) (wX cy ad S)) args s 0 0 A) (F0 m 0 ls []) by exact hG s.heap [] hP va_S.rf
  clear hP hS
  intro H locs hP hS
  refine lv_iload_n hx hb dX5_ranksAhead_0 rfl (lv_at hl 1 rfl) ?_
  refine lv_bipush (v := 8) hx hb dX5_ranksAhead_1 (by decide) ?_
  refine kSi (As := [.int p0, .int 8]) (rest := []) ⟨hx, hb, hml, hown, hts⟩ (okX5_isWithin l D cy A (wX cy ad S) p0 8 _ rfl) (va_cwS 2 hts gX5_ranksAhead_X5_isWithin rfl rfl rfl (by decide +kernel) ⟨Nat.le_of_ble_eq_true rfl, Nat.le_of_ble_eq_true rfl⟩) hK hP hS rfl hl.1 rfl (Nat.le_of_ble_eq_true rfl) dX5_ranksAhead_3 (fun H locs hP hS => ?_)
  refine lv_if_eq (tgt := 18) hx hb dX5_ranksAhead_6 (by decide) (fun c17 => ?_) (fun c17 => ?_)
  · have hf := (if_pos c17).symm.trans hf
    refine lv_iconst (v := 0) hx hb dX5_ranksAhead_18 (by decide) ?_
    have he := Option.some.inj hf
    exact rZ hx hb hr (bi_nar false) hP hS (congrArg bi he) hlocks dX5_ranksAhead_19
  · have hf := (if_neg c17).symm.trans hf
    refine lv_iload_n hx hb dX5_ranksAhead_9 rfl (lv_at hl 2 rfl) ?_
    refine lv_bipush (v := 8) hx hb dX5_ranksAhead_10 (by decide) ?_
    refine kSi (As := [.int p1, .int 8]) (rest := []) ⟨hx, hb, hml, hown, hts⟩ (okX5_isWithin l D cy A (wX cy ad S) p1 8 _ rfl) (va_cwS 2 hts gX5_ranksAhead_X5_isWithin rfl rfl rfl (by decide +kernel) ⟨Nat.le_of_ble_eq_true rfl, Nat.le_of_ble_eq_true rfl⟩) hK hP hS rfl hl.1 rfl (Nat.le_of_ble_eq_true rfl) dX5_ranksAhead_12 (fun H locs hP hS => ?_)
    refine lv_if_ne (tgt := 20) hx hb dX5_ranksAhead_15 (by decide) (fun c19 => ?_) (fun c19 => ?_)
    · have hf := (if_neg c19).symm.trans hf
      refine lv_aload_n hx hb dX5_ranksAhead_20 rfl (lv_at hl 0 rfl) ?_
      refine gfX5_5 hx hb hts (fun _ h => List.mem_cons_of_mem _ (List.mem_append_right _ h)) hown hK hP (hts (Cond.fieldLink RX5 41 "WhoSpeaks" "hasCounts" "[I") (List.mem_of_getElem? (i := 1) rfl)) dX5_ranksAhead_21 ?_
      refine lv_iload_n hx hb dX5_ranksAhead_24 rfl (lv_at hl 1 rfl) ?_
      obtain ⟨c20, hf⟩ := ck_some hf
      refine alX17 hx hb hK hP c20 dX5_ranksAhead_25 ?_
      refine lv_aload_n hx hb dX5_ranksAhead_26 rfl (lv_at hl 0 rfl) ?_
      refine gfX5_5 hx hb hts (fun _ h => List.mem_cons_of_mem _ (List.mem_append_right _ h)) hown hK hP (hts (Cond.fieldLink RX5 41 "WhoSpeaks" "hasCounts" "[I") (List.mem_of_getElem? (i := 1) rfl)) dX5_ranksAhead_27 ?_
      refine lv_iload_n hx hb dX5_ranksAhead_30 rfl (lv_at hl 2 rfl) ?_
      obtain ⟨c21, hf⟩ := ck_some hf
      refine alX17 hx hb hK hP c21 dX5_ranksAhead_31 ?_
      refine lv_icmp_eq (tgt := 56) hx hb dX5_ranksAhead_32 (by decide) (fun c22 => ?_) (fun c22 => ?_)
      · have hf := (if_pos c22).symm.trans hf
        refine lv_aload_n hx hb dX5_ranksAhead_56 rfl (lv_at hl 0 rfl) ?_
        refine gfX5_6 hx hb hts (fun _ h => List.mem_cons_of_mem _ (List.mem_append_right _ h)) hown hK hP (hts (Cond.fieldLink RX5 44 "WhoSpeaks" "mayCounts" "[I") (List.mem_of_getElem? (i := 2) rfl)) dX5_ranksAhead_57 ?_
        refine lv_iload_n hx hb dX5_ranksAhead_60 rfl (lv_at hl 1 rfl) ?_
        obtain ⟨c23, hf⟩ := ck_some hf
        refine alX18 hx hb hK hP c23 dX5_ranksAhead_61 ?_
        refine lv_aload_n hx hb dX5_ranksAhead_62 rfl (lv_at hl 0 rfl) ?_
        refine gfX5_6 hx hb hts (fun _ h => List.mem_cons_of_mem _ (List.mem_append_right _ h)) hown hK hP (hts (Cond.fieldLink RX5 44 "WhoSpeaks" "mayCounts" "[I") (List.mem_of_getElem? (i := 2) rfl)) dX5_ranksAhead_63 ?_
        refine lv_iload_n hx hb dX5_ranksAhead_66 rfl (lv_at hl 2 rfl) ?_
        obtain ⟨c24, hf⟩ := ck_some hf
        refine alX18 hx hb hK hP c24 dX5_ranksAhead_67 ?_
        refine lv_icmp_eq (tgt := 92) hx hb dX5_ranksAhead_68 (by decide) (fun c25 => ?_) (fun c25 => ?_)
        · have hf := (if_pos c25).symm.trans hf
          refine lv_iload_n hx hb dX5_ranksAhead_92 rfl (lv_at hl 1 rfl) ?_
          refine lv_iload_n hx hb dX5_ranksAhead_93 rfl (lv_at hl 2 rfl) ?_
          refine lv_icmp_ge (tgt := 101) hx hb dX5_ranksAhead_94 (by decide) (fun c26 => ?_) (fun c26 => ?_)
          · have hf := (if_pos c26).symm.trans hf
            refine lv_iconst (v := 0) hx hb dX5_ranksAhead_101 (by decide) ?_
            have he := Option.some.inj hf
            exact rZ hx hb hr (bi_nar false) hP hS (congrArg bi he) hlocks dX5_ranksAhead_102
          · have hf := (if_neg c26).symm.trans hf
            refine lv_iconst (v := 1) hx hb dX5_ranksAhead_97 (by decide) ?_
            refine lv_goto (tgt := 102) hx hb dX5_ranksAhead_98 (by decide) ?_
            have he := Option.some.inj hf
            exact rZ hx hb hr (bi_nar true) hP hS (congrArg bi he) hlocks dX5_ranksAhead_102
        · have hf := (if_neg c25).symm.trans hf
          refine lv_aload_n hx hb dX5_ranksAhead_71 rfl (lv_at hl 0 rfl) ?_
          refine gfX5_6 hx hb hts (fun _ h => List.mem_cons_of_mem _ (List.mem_append_right _ h)) hown hK hP (hts (Cond.fieldLink RX5 44 "WhoSpeaks" "mayCounts" "[I") (List.mem_of_getElem? (i := 2) rfl)) dX5_ranksAhead_72 ?_
          refine lv_iload_n hx hb dX5_ranksAhead_75 rfl (lv_at hl 1 rfl) ?_
          obtain ⟨c27, hf⟩ := ck_some hf
          refine alX18 hx hb hK hP c27 dX5_ranksAhead_76 ?_
          refine lv_aload_n hx hb dX5_ranksAhead_77 rfl (lv_at hl 0 rfl) ?_
          refine gfX5_6 hx hb hts (fun _ h => List.mem_cons_of_mem _ (List.mem_append_right _ h)) hown hK hP (hts (Cond.fieldLink RX5 44 "WhoSpeaks" "mayCounts" "[I") (List.mem_of_getElem? (i := 2) rfl)) dX5_ranksAhead_78 ?_
          refine lv_iload_n hx hb dX5_ranksAhead_81 rfl (lv_at hl 2 rfl) ?_
          obtain ⟨c28, hf⟩ := ck_some hf
          refine alX18 hx hb hK hP c28 dX5_ranksAhead_82 ?_
          refine lv_icmp_le (tgt := 90) hx hb dX5_ranksAhead_83 (by decide) (fun c29 => ?_) (fun c29 => ?_)
          · have hf := (if_pos c29).symm.trans hf
            refine lv_iconst (v := 0) hx hb dX5_ranksAhead_90 (by decide) ?_
            have he := Option.some.inj hf
            exact rZ hx hb hr (bi_nar false) hP hS (congrArg bi he) hlocks dX5_ranksAhead_91
          · have hf := (if_neg c29).symm.trans hf
            refine lv_iconst (v := 1) hx hb dX5_ranksAhead_86 (by decide) ?_
            refine lv_goto (tgt := 91) hx hb dX5_ranksAhead_87 (by decide) ?_
            have he := Option.some.inj hf
            exact rZ hx hb hr (bi_nar true) hP hS (congrArg bi he) hlocks dX5_ranksAhead_91
      · have hf := (if_neg c22).symm.trans hf
        refine lv_aload_n hx hb dX5_ranksAhead_35 rfl (lv_at hl 0 rfl) ?_
        refine gfX5_5 hx hb hts (fun _ h => List.mem_cons_of_mem _ (List.mem_append_right _ h)) hown hK hP (hts (Cond.fieldLink RX5 41 "WhoSpeaks" "hasCounts" "[I") (List.mem_of_getElem? (i := 1) rfl)) dX5_ranksAhead_36 ?_
        refine lv_iload_n hx hb dX5_ranksAhead_39 rfl (lv_at hl 1 rfl) ?_
        obtain ⟨c30, hf⟩ := ck_some hf
        refine alX17 hx hb hK hP c30 dX5_ranksAhead_40 ?_
        refine lv_aload_n hx hb dX5_ranksAhead_41 rfl (lv_at hl 0 rfl) ?_
        refine gfX5_5 hx hb hts (fun _ h => List.mem_cons_of_mem _ (List.mem_append_right _ h)) hown hK hP (hts (Cond.fieldLink RX5 41 "WhoSpeaks" "hasCounts" "[I") (List.mem_of_getElem? (i := 1) rfl)) dX5_ranksAhead_42 ?_
        refine lv_iload_n hx hb dX5_ranksAhead_45 rfl (lv_at hl 2 rfl) ?_
        obtain ⟨c31, hf⟩ := ck_some hf
        refine alX17 hx hb hK hP c31 dX5_ranksAhead_46 ?_
        refine lv_icmp_le (tgt := 54) hx hb dX5_ranksAhead_47 (by decide) (fun c32 => ?_) (fun c32 => ?_)
        · have hf := (if_pos c32).symm.trans hf
          refine lv_iconst (v := 0) hx hb dX5_ranksAhead_54 (by decide) ?_
          have he := Option.some.inj hf
          exact rZ hx hb hr (bi_nar false) hP hS (congrArg bi he) hlocks dX5_ranksAhead_55
        · have hf := (if_neg c32).symm.trans hf
          refine lv_iconst (v := 1) hx hb dX5_ranksAhead_50 (by decide) ?_
          refine lv_goto (tgt := 55) hx hb dX5_ranksAhead_51 (by decide) ?_
          have he := Option.some.inj hf
          exact rZ hx hb hr (bi_nar true) hP hS (congrArg bi he) hlocks dX5_ranksAhead_55
    · have hf := (if_pos c19).symm.trans hf
      refine lv_iconst (v := 0) hx hb dX5_ranksAhead_18 (by decide) ?_
      have he := Option.some.inj hf
      exact rZ hx hb hr (bi_nar false) hP hS (congrArg bi he) hlocks dX5_ranksAhead_19

def bX5_placeByRank_4  (k4 : Int32 × Int32 × Int32 × XS → Option Int32) (x1 : Int32) (x2 : Int32) (x3 : Int32) (S : XS) : Option Int32 := (if 8 ≤ x3 then (some x2) else (if (bi (fX2_isThere x3 S)) = 0 then (k4 (x1, x2, (x3 + 1), S)) else (ob1 (fX5_ranksAhead x3 x1 S) (fun r13 => (if (bi r13) = 0 then (k4 (x1, x2, (x3 + 1), S)) else (k4 (x1, (x2 + 1), (x3 + 1), S)))))))
def fX5_placeByRank (p0 : Int32) (S : XS) : Option Int32 := (lp (fun k q => bX5_placeByRank_4  k q.1 q.2.1 q.2.2.1 q.2.2.2) FU (p0, 0, 0, S))
set_option maxHeartbeats 4000000 in
set_option maxRecDepth 100000 in
theorem okX5_placeByRank (l : Launch) (D : va_G) (cy : Nat → ClassId) (ad : Nat → Nat) (A : Nat → Prop) (hD : ∀ S, va_D A (wX cy ad S)) (p0 : Int32) (S : XS) (r : Int32) (hf : fX5_placeByRank p0 S = some r) : MI l yX5_placeByRank wsX5_placeByRank { frames := 2, cells := 0, slots := 0, locals := 43 } D cy A (wX cy ad S) [.ref (ad 0), .int p0] r (wX cy ad S) := by
  refine Met.ofW (cc := cX5_placeByRank) (maxL := 4) (ret := (some .int)) (by decide) rfl ?_
  intro p e s m args below meth c s₁ B hml hv
  obtain ⟨ha, hP, hK⟩ := hv
  have hx := B.exec
  have hb := B.bytes
  have hr := B.returns
  have hts := atoms_spec (ws := wsX5_placeByRank) B.pre
  have hown : s.vm.findClass RX5 = some m.cls := findClass_of_methodNamed B.named
  have hlocks := B.notSynchronized
  have hS : va_S A s.heap s.heap [] := va_S.rf
  obtain ⟨ls, hl, he0⟩ := ent (m := m) ha (n := 4) (Nat.le_of_ble_eq_true rfl)
  refine W.eq he0 ?_
  have hl : lv_has ls 4 [(0, .ref (ad 0)), (1, .int p0)] := hl
  have K4 : ∀ (n : Nat), ∀ (x1 : Int32) (x2 : Int32) (x3 : Int32) (S : XS) (H : Heap) (locs : List Loc) (ls : Array Slot), va_P D vwCl (wX cy ad S) H → va_S A s.heap H locs → lv_has ls 4 [(0, .ref (ad 0)), (1, .int x1), (2, .int x2), (3, .int x3)] → lp (fun k q => bX5_placeByRank_4  k q.1 q.2.1 q.2.2.1 q.2.2.2) n (x1, x2, x3, S) = some r → W p l e (headSpec wsX5_placeByRank { frames := 2, cells := 0, slots := 0, locals := 43 }).room s m args below meth c H locs 0 0 (MQ below (QcI D A r (wX cy ad S)) args s 0 0 A) (F0 m 4 ls []) := by
    intro  n
    induction n with
    | zero =>
      intro x1 x2 x3 S H locs ls hP hS hl hf
      cases hf
    | succ n ih4 =>
      intro x1 x2 x3 S H locs ls hP hS hl hf
      have hf : bX5_placeByRank_4  (lp (fun k q => bX5_placeByRank_4  k q.1 q.2.1 q.2.2.1 q.2.2.2) n) x1 x2 x3 S = some r := hf
      generalize lp (fun k q => bX5_placeByRank_4  k q.1 q.2.1 q.2.2.1 q.2.2.2) n = k4 at hf ih4
      unfold bX5_placeByRank_4 at hf
      refine lv_iload_n hx hb dX5_placeByRank_4 rfl (lv_at hl 3 rfl) ?_
      refine lv_bipush (v := 8) hx hb dX5_placeByRank_5 (by decide) ?_
      refine lv_icmp_ge (tgt := 39) hx hb dX5_placeByRank_7 (by decide) (fun c10 => ?_) (fun c10 => ?_)
      · have hf := (if_pos c10).symm.trans hf
        refine lv_iload_n hx hb dX5_placeByRank_39 rfl (lv_at hl 2 rfl) ?_
        have he := Option.some.inj hf
        exact rI hx hb hr hP hS he hlocks dX5_placeByRank_40
      · have hf := (if_neg c10).symm.trans hf
        refine lv_aload_n hx hb dX5_placeByRank_10 rfl (lv_at hl 0 rfl) ?_
        refine gfX5_0 hx hb hts (fun _ h => List.mem_cons_of_mem _ (List.mem_append_left _ (List.mem_append_right _ h))) hown hK hP (hts (Cond.fieldLink RX5 12 "WhoSpeaks" "people" "LWhoSpeaks$People;") (List.mem_of_getElem? (i := 1) rfl)) dX5_placeByRank_11 ?_
        refine lv_iload_n hx hb dX5_placeByRank_14 rfl (lv_at hl 3 rfl) ?_
        refine kVi (As := [.int x3]) (rest := []) ⟨hx, hb, hml, hown, hts⟩ (okX2_isThere l D cy ad A hD x3 S _ rfl) (cwV 1 hts gX5_placeByRank_X2_isThere rfl rfl rfl (by decide +kernel) ⟨Nat.le_of_ble_eq_true rfl, Nat.le_of_ble_eq_true rfl⟩) hK hP hS (va_recv hK.1 hP (ci := 2) (q := (RX2, TX2, 2)) rfl (atX1 cy ad S)) rfl hl.1 rfl (Nat.le_of_ble_eq_true rfl) dX5_placeByRank_15 (fun H locs hP hS => ?_)
        refine lv_if_eq (tgt := 33) hx hb dX5_placeByRank_18 (by decide) (fun c12 => ?_) (fun c12 => ?_)
        · have hf := (if_pos c12).symm.trans hf
          refine lv_iinc (v := (x3 + 1)) (lv' := [(3, .int (x3 + 1)), (0, .ref (ad 0)), (1, .int x1), (2, .int x2)]) hx hb dX5_placeByRank_33 hl (k := 3) rfl rfl (by decide) rfl (fun ls hl => ?_)
          refine lv_goto (tgt := 4) hx hb dX5_placeByRank_36 (by decide) ?_
          exact ih4 (x1) (x2) ((x3 + 1)) S H locs ls hP hS (lv_sub hl [1, 2, 3, 0] rfl) hf
        · have hf := (if_neg c12).symm.trans hf
          refine lv_aload_n hx hb dX5_placeByRank_21 rfl (lv_at hl 0 rfl) ?_
          refine lv_iload_n hx hb dX5_placeByRank_22 rfl (lv_at hl 3 rfl) ?_
          refine lv_iload_n hx hb dX5_placeByRank_23 rfl (lv_at hl 1 rfl) ?_
          obtain ⟨r13, h14, hf⟩ := ob1_some hf
          refine kVi (As := [.int x3, .int x1]) (rest := []) ⟨hx, hb, hml, hown, hts⟩ (okX5_ranksAhead l D cy ad A hD x3 x1 S r13 h14) (cwV 2 hts gX5_placeByRank_X5_ranksAhead rfl rfl rfl (by decide +kernel) ⟨Nat.le_of_ble_eq_true rfl, Nat.le_of_ble_eq_true rfl⟩) hK hP hS (va_recv hK.1 hP (ci := 5) (q := (RX5, TX5, 9)) rfl (atX0 cy ad S)) rfl hl.1 rfl (Nat.le_of_ble_eq_true rfl) dX5_placeByRank_24 (fun H locs hP hS => ?_)
          refine lv_if_eq (tgt := 33) hx hb dX5_placeByRank_27 (by decide) (fun c15 => ?_) (fun c15 => ?_)
          · have hf := (if_pos c15).symm.trans hf
            refine lv_iinc (v := (x3 + 1)) (lv' := [(3, .int (x3 + 1)), (0, .ref (ad 0)), (1, .int x1), (2, .int x2)]) hx hb dX5_placeByRank_33 hl (k := 3) rfl rfl (by decide) rfl (fun ls hl => ?_)
            refine lv_goto (tgt := 4) hx hb dX5_placeByRank_36 (by decide) ?_
            exact ih4 (x1) (x2) ((x3 + 1)) S H locs ls hP hS (lv_sub hl [1, 2, 3, 0] rfl) hf
          · have hf := (if_neg c15).symm.trans hf
            refine lv_iinc (v := (x2 + 1)) (lv' := [(2, .int (x2 + 1)), (0, .ref (ad 0)), (1, .int x1), (3, .int x3)]) hx hb dX5_placeByRank_30 hl (k := 2) rfl rfl (by decide) rfl (fun ls hl => ?_)
            refine lv_iinc (v := (x3 + 1)) (lv' := [(3, .int (x3 + 1)), (2, .int (x2 + 1)), (0, .ref (ad 0)), (1, .int x1)]) hx hb dX5_placeByRank_33 hl (k := 3) rfl rfl (by decide) rfl (fun ls hl => ?_)
            refine lv_goto (tgt := 4) hx hb dX5_placeByRank_36 (by decide) ?_
            exact ih4 (x1) ((x2 + 1)) ((x3 + 1)) S H locs ls hP hS (lv_sub hl [2, 3, 1, 0] rfl) hf
  unfold fX5_placeByRank at hf
  suffices hG : ∀ (H : Heap) (locs : List Loc), va_P D vwCl (wX cy ad S) H → va_S A s.heap H locs → W p l e (headSpec wsX5_placeByRank { frames := 2, cells := 0, slots := 0, locals := 43 }).room s m args below meth c H locs 0 0 (MQ below (QcI D A r (wX cy ad S)) args s 0 0 A) (F0 m 0 ls []) by exact hG s.heap [] hP va_S.rf
  clear hP hS
  intro H locs hP hS
  refine lv_iconst (v := 0) hx hb dX5_placeByRank_0 (by decide) ?_
  refine lv_istore_n (lv' := [(2, .int 0), (0, .ref (ad 0)), (1, .int p0)]) hx hb dX5_placeByRank_1 rfl hl (by decide) rfl (fun ls hl => ?_)
  refine lv_iconst (v := 0) hx hb dX5_placeByRank_2 (by decide) ?_
  refine lv_istore_n (lv' := [(3, .int 0), (2, .int 0), (0, .ref (ad 0)), (1, .int p0)]) hx hb dX5_placeByRank_3 rfl hl (by decide) rfl (fun ls hl => ?_)
  exact K4  FU (p0) (0) (0) S H locs ls hP hS (lv_sub hl [2, 3, 1, 0] rfl) hf

def bX5_rank_68  (k68 : Int32 × Int32 × XS → Option (Int32 × XS)) (x1 : Int32) (x2 : Int32) (S : XS) : Option (Int32 × XS) := (if 8 ≤ x2 then (some ((-9), S)) else (if (bi (fX2_isThere x2 S)) = 0 then (k68 (x1, (x2 + 1), S)) else (ob1 (fX5_placeByRank x2 S) (fun r38 => (if r38 = x1 then (some (x2, S)) else (k68 (x1, (x2 + 1), S)))))))
def bX5_rank_26  (k26 : Int32 × Int32 × XS → Option (Int32 × XS)) (x1 : Int32) (x2 : Int32) (S : XS) : Option (Int32 × XS) := (if 8 ≤ x2 then (lp (fun k q => bX5_rank_68  k q.1 q.2.1 q.2.2) FU (x1, 0, S)) else (ob1 (fX0_hadBy x2 S) (fun r42 => (ck x2 8 (bnd (xaW S 17 x2.toNatClampNeg r42) (fun S44 => (ob1 (fX0_maybeHadBy x2 S44) (fun r46 => (ck x2 8 (bnd (xaW S44 18 x2.toNatClampNeg r46) (fun S48 => (k26 (x1, (x2 + 1), S48)))))))))))))
def fX5_rank (p0 : Int32) (S : XS) : Option (Int32 × XS) := (if (bi (fX5_isWithin p0 8)) = 0 then (some ((-2), S)) else (ob1 (fX5_fillChain  S) (fun S53 => (ob2 (fX0_countWays  S53) (fun r54 S56 => (lp (fun k q => bX5_rank_26  k q.1 q.2.1 q.2.2) FU (p0, 0, S56)))))))
set_option maxHeartbeats 4000000 in
set_option maxRecDepth 100000 in
theorem okX5_rank (l : Launch) (D : va_G) (cy : Nat → ClassId) (ad : Nat → Nat) (A : Nat → Prop) (hD : ∀ S, va_D A (wX cy ad S)) (p0 : Int32) (S : XS) (r : Int32) (S' : XS) (hf : fX5_rank p0 S = some (r, S')) : MI l yX5_rank wsX5_rank { frames := 6, cells := 0, slots := 0, locals := 146 } D cy A (wX cy ad S) [.ref (ad 0), .int p0] r (wX cy ad S') := by
  refine Met.ofW (cc := cX5_rank) (maxL := 3) (ret := (some .int)) (by decide) rfl ?_
  intro p e s m args below meth c s₁ B hml hv
  obtain ⟨ha, hP, hK⟩ := hv
  have hx := B.exec
  have hb := B.bytes
  have hr := B.returns
  have hts := atoms_spec (ws := wsX5_rank) B.pre
  have hown : s.vm.findClass RX5 = some m.cls := findClass_of_methodNamed B.named
  have hlocks := B.notSynchronized
  have hS : va_S A s.heap s.heap [] := va_S.rf
  obtain ⟨ls, hl, he0⟩ := ent (m := m) ha (n := 3) (Nat.le_of_ble_eq_true rfl)
  refine W.eq he0 ?_
  have hl : lv_has ls 3 [(0, .ref (ad 0)), (1, .int p0)] := hl
  have K68 : ∀ (n : Nat), ∀ (x1 : Int32) (x2 : Int32) (S : XS) (H : Heap) (locs : List Loc) (ls : Array Slot), va_P D vwCl (wX cy ad S) H → va_S A s.heap H locs → lv_has ls 3 [(0, .ref (ad 0)), (1, .int x1), (2, .int x2)] → lp (fun k q => bX5_rank_68  k q.1 q.2.1 q.2.2) n (x1, x2, S) = some (r, S') → W p l e (headSpec wsX5_rank { frames := 6, cells := 0, slots := 0, locals := 146 }).room s m args below meth c H locs 0 0 (MQ below (QcI D A r (wX cy ad S')) args s 0 0 A) (F0 m 68 ls []) := by
    intro  n
    induction n with
    | zero =>
      intro x1 x2 S H locs ls hP hS hl hf
      cases hf
    | succ n ih68 =>
      intro x1 x2 S H locs ls hP hS hl hf
      have hf : bX5_rank_68  (lp (fun k q => bX5_rank_68  k q.1 q.2.1 q.2.2) n) x1 x2 S = some (r, S') := hf
      generalize lp (fun k q => bX5_rank_68  k q.1 q.2.1 q.2.2) n = k68 at hf ih68
      unfold bX5_rank_68 at hf
      refine lv_iload_n hx hb dX5_rank_68 rfl (lv_at hl 2 rfl) ?_
      refine lv_bipush (v := 8) hx hb dX5_rank_69 (by decide) ?_
      refine lv_icmp_ge (tgt := 102) hx hb dX5_rank_71 (by decide) (fun c35 => ?_) (fun c35 => ?_)
      · have hf := (if_pos c35).symm.trans hf
        refine lv_bipush (v := (-9)) hx hb dX5_rank_102 (by decide) ?_
        obtain ⟨he, hS9⟩ := Prod.mk.inj (Option.some.inj hf)
        subst hS9
        exact rI hx hb hr hP hS he hlocks dX5_rank_104
      · have hf := (if_neg c35).symm.trans hf
        refine lv_aload_n hx hb dX5_rank_74 rfl (lv_at hl 0 rfl) ?_
        refine gfX5_0 hx hb hts (fun _ h => List.mem_cons_of_mem _ (List.mem_append_left _ (List.mem_append_left _ (List.mem_append_left _ (List.mem_append_left _ (List.mem_append_right _ h)))))) hown hK hP (hts (Cond.fieldLink RX5 12 "WhoSpeaks" "people" "LWhoSpeaks$People;") (List.mem_of_getElem? (i := 4) rfl)) dX5_rank_75 ?_
        refine lv_iload_n hx hb dX5_rank_78 rfl (lv_at hl 2 rfl) ?_
        refine kVi (As := [.int x2]) (rest := []) ⟨hx, hb, hml, hown, hts⟩ (okX2_isThere l D cy ad A hD x2 S _ rfl) (cwV 1 hts gX5_rank_X2_isThere rfl rfl rfl (by decide +kernel) ⟨Nat.le_of_ble_eq_true rfl, Nat.le_of_ble_eq_true rfl⟩) hK hP hS (va_recv hK.1 hP (ci := 2) (q := (RX2, TX2, 2)) rfl (atX1 cy ad S)) rfl hl.1 rfl (Nat.le_of_ble_eq_true rfl) dX5_rank_79 (fun H locs hP hS => ?_)
        refine lv_if_eq (tgt := 96) hx hb dX5_rank_82 (by decide) (fun c37 => ?_) (fun c37 => ?_)
        · have hf := (if_pos c37).symm.trans hf
          refine lv_iinc (v := (x2 + 1)) (lv' := [(2, .int (x2 + 1)), (0, .ref (ad 0)), (1, .int x1)]) hx hb dX5_rank_96 hl (k := 2) rfl rfl (by decide) rfl (fun ls hl => ?_)
          refine lv_goto (tgt := 68) hx hb dX5_rank_99 (by decide) ?_
          exact ih68 (x1) ((x2 + 1)) S H locs ls hP hS (lv_sub hl [1, 2, 0] rfl) hf
        · have hf := (if_neg c37).symm.trans hf
          refine lv_aload_n hx hb dX5_rank_85 rfl (lv_at hl 0 rfl) ?_
          refine lv_iload_n hx hb dX5_rank_86 rfl (lv_at hl 2 rfl) ?_
          obtain ⟨r38, h39, hf⟩ := ob1_some hf
          refine kVi (As := [.int x2]) (rest := []) ⟨hx, hb, hml, hown, hts⟩ (okX5_placeByRank l D cy ad A hD x2 S r38 h39) (cwV 1 hts gX5_rank_X5_placeByRank rfl rfl rfl (by decide +kernel) ⟨Nat.le_of_ble_eq_true rfl, Nat.le_of_ble_eq_true rfl⟩) hK hP hS (va_recv hK.1 hP (ci := 5) (q := (RX5, TX5, 9)) rfl (atX0 cy ad S)) rfl hl.1 rfl (Nat.le_of_ble_eq_true rfl) dX5_rank_87 (fun H locs hP hS => ?_)
          refine lv_iload_n hx hb dX5_rank_90 rfl (lv_at hl 1 rfl) ?_
          refine lv_icmp_ne (tgt := 96) hx hb dX5_rank_91 (by decide) (fun c40 => ?_) (fun c40 => ?_)
          · have hf := (if_neg c40).symm.trans hf
            refine lv_iinc (v := (x2 + 1)) (lv' := [(2, .int (x2 + 1)), (0, .ref (ad 0)), (1, .int x1)]) hx hb dX5_rank_96 hl (k := 2) rfl rfl (by decide) rfl (fun ls hl => ?_)
            refine lv_goto (tgt := 68) hx hb dX5_rank_99 (by decide) ?_
            exact ih68 (x1) ((x2 + 1)) S H locs ls hP hS (lv_sub hl [1, 2, 0] rfl) hf
          · have hf := (if_pos c40).symm.trans hf
            refine lv_iload_n hx hb dX5_rank_94 rfl (lv_at hl 2 rfl) ?_
            obtain ⟨he, hS9⟩ := Prod.mk.inj (Option.some.inj hf)
            subst hS9
            exact rI hx hb hr hP hS he hlocks dX5_rank_95
  have K26 : ∀ (n : Nat), ∀ (x1 : Int32) (x2 : Int32) (S : XS) (H : Heap) (locs : List Loc) (ls : Array Slot), va_P D vwCl (wX cy ad S) H → va_S A s.heap H locs → lv_has ls 3 [(0, .ref (ad 0)), (1, .int x1), (2, .int x2)] → lp (fun k q => bX5_rank_26  k q.1 q.2.1 q.2.2) n (x1, x2, S) = some (r, S') → W p l e (headSpec wsX5_rank { frames := 6, cells := 0, slots := 0, locals := 146 }).room s m args below meth c H locs 0 0 (MQ below (QcI D A r (wX cy ad S')) args s 0 0 A) (F0 m 26 ls []) := by
    intro  n
    induction n with
    | zero =>
      intro x1 x2 S H locs ls hP hS hl hf
      cases hf
    | succ n ih26 =>
      intro x1 x2 S H locs ls hP hS hl hf
      have hf : bX5_rank_26  (lp (fun k q => bX5_rank_26  k q.1 q.2.1 q.2.2) n) x1 x2 S = some (r, S') := hf
      generalize lp (fun k q => bX5_rank_26  k q.1 q.2.1 q.2.2) n = k26 at hf ih26
      unfold bX5_rank_26 at hf
      refine lv_iload_n hx hb dX5_rank_26 rfl (lv_at hl 2 rfl) ?_
      refine lv_bipush (v := 8) hx hb dX5_rank_27 (by decide) ?_
      refine lv_icmp_ge (tgt := 66) hx hb dX5_rank_29 (by decide) (fun c41 => ?_) (fun c41 => ?_)
      · have hf := (if_pos c41).symm.trans hf
        refine lv_iconst (v := 0) hx hb dX5_rank_66 (by decide) ?_
        refine lv_istore_n (lv' := [(2, .int 0), (0, .ref (ad 0)), (1, .int x1)]) hx hb dX5_rank_67 rfl hl (by decide) rfl (fun ls hl => ?_)
        exact K68  FU (x1) (0) S H locs ls hP hS (lv_sub hl [1, 2, 0] rfl) hf
      · have hf := (if_neg c41).symm.trans hf
        refine lv_aload_n hx hb dX5_rank_32 rfl (lv_at hl 0 rfl) ?_
        refine gfX5_5 hx hb hts (fun _ h => List.mem_cons_of_mem _ (List.mem_append_left _ (List.mem_append_left _ (List.mem_append_left _ (List.mem_append_left _ (List.mem_append_right _ h)))))) hown hK hP (hts (Cond.fieldLink RX5 41 "WhoSpeaks" "hasCounts" "[I") (List.mem_of_getElem? (i := 2) rfl)) dX5_rank_33 ?_
        refine lv_iload_n hx hb dX5_rank_36 rfl (lv_at hl 2 rfl) ?_
        refine lv_aload_n hx hb dX5_rank_37 rfl (lv_at hl 0 rfl) ?_
        refine gfX5_3 hx hb hts (fun _ h => List.mem_cons_of_mem _ (List.mem_append_left _ (List.mem_append_left _ (List.mem_append_left _ (List.mem_append_left _ (List.mem_append_right _ h)))))) hown hK hP (hts (Cond.fieldLink RX5 33 "WhoSpeaks" "chain" "LWhoSpeaks$Chain;") (List.mem_of_getElem? (i := 1) rfl)) dX5_rank_38 ?_
        refine lv_iload_n hx hb dX5_rank_41 rfl (lv_at hl 2 rfl) ?_
        obtain ⟨r42, h43, hf⟩ := ob1_some hf
        refine kVi (As := [.int x2]) (rest := [.int x2, .ref (ad 17)]) ⟨hx, hb, hml, hown, hts⟩ (okX0_hadBy l D cy ad A hD x2 S r42 h43) (cwV 1 hts gX5_rank_X0_hadBy rfl rfl rfl (by decide +kernel) ⟨Nat.le_of_ble_eq_true rfl, Nat.le_of_ble_eq_true rfl⟩) hK hP hS (va_recv hK.1 hP (ci := 0) (q := (RX0, TX0, 9)) rfl (atX7 cy ad S)) rfl hl.1 rfl (Nat.le_of_ble_eq_true rfl) dX5_rank_42 (fun H locs hP hS => ?_)
        obtain ⟨c45, hf⟩ := ck_some hf
        refine asX17 (v := r42) hx hb hK hP hD hS c45 dX5_rank_45 (fun S44 eS44 H locs hP hS => ?_)
        have hf := bnd_of eS44 hf
        refine lv_aload_n hx hb dX5_rank_46 rfl (lv_at hl 0 rfl) ?_
        refine gfX5_6 hx hb hts (fun _ h => List.mem_cons_of_mem _ (List.mem_append_left _ (List.mem_append_left _ (List.mem_append_left _ (List.mem_append_left _ (List.mem_append_right _ h)))))) hown hK hP (hts (Cond.fieldLink RX5 44 "WhoSpeaks" "mayCounts" "[I") (List.mem_of_getElem? (i := 3) rfl)) dX5_rank_47 ?_
        refine lv_iload_n hx hb dX5_rank_50 rfl (lv_at hl 2 rfl) ?_
        refine lv_aload_n hx hb dX5_rank_51 rfl (lv_at hl 0 rfl) ?_
        refine gfX5_3 hx hb hts (fun _ h => List.mem_cons_of_mem _ (List.mem_append_left _ (List.mem_append_left _ (List.mem_append_left _ (List.mem_append_left _ (List.mem_append_right _ h)))))) hown hK hP (hts (Cond.fieldLink RX5 33 "WhoSpeaks" "chain" "LWhoSpeaks$Chain;") (List.mem_of_getElem? (i := 1) rfl)) dX5_rank_52 ?_
        refine lv_iload_n hx hb dX5_rank_55 rfl (lv_at hl 2 rfl) ?_
        obtain ⟨r46, h47, hf⟩ := ob1_some hf
        refine kVi (As := [.int x2]) (rest := [.int x2, .ref (ad 18)]) ⟨hx, hb, hml, hown, hts⟩ (okX0_maybeHadBy l D cy ad A hD x2 S44 r46 h47) (cwV 1 hts gX5_rank_X0_maybeHadBy rfl rfl rfl (by decide +kernel) ⟨Nat.le_of_ble_eq_true rfl, Nat.le_of_ble_eq_true rfl⟩) hK hP hS (va_recv hK.1 hP (ci := 0) (q := (RX0, TX0, 9)) rfl (atX7 cy ad S44)) rfl hl.1 rfl (Nat.le_of_ble_eq_true rfl) dX5_rank_56 (fun H locs hP hS => ?_)
        obtain ⟨c49, hf⟩ := ck_some hf
        refine asX18 (v := r46) hx hb hK hP hD hS c49 dX5_rank_59 (fun S48 eS48 H locs hP hS => ?_)
        have hf := bnd_of eS48 hf
        refine lv_iinc (v := (x2 + 1)) (lv' := [(2, .int (x2 + 1)), (0, .ref (ad 0)), (1, .int x1)]) hx hb dX5_rank_60 hl (k := 2) rfl rfl (by decide) rfl (fun ls hl => ?_)
        refine lv_goto (tgt := 26) hx hb dX5_rank_63 (by decide) ?_
        exact ih26 (x1) ((x2 + 1)) S48 H locs ls hP hS (lv_sub hl [1, 2, 0] rfl) hf
  unfold fX5_rank at hf
  suffices hG : ∀ (H : Heap) (locs : List Loc), va_P D vwCl (wX cy ad S) H → va_S A s.heap H locs → W p l e (headSpec wsX5_rank { frames := 6, cells := 0, slots := 0, locals := 146 }).room s m args below meth c H locs 0 0 (MQ below (QcI D A r (wX cy ad S')) args s 0 0 A) (F0 m 0 ls []) by exact hG s.heap [] hP va_S.rf
  clear hP hS
  intro H locs hP hS
  refine lv_iload_n hx hb dX5_rank_0 rfl (lv_at hl 1 rfl) ?_
  refine lv_bipush (v := 8) hx hb dX5_rank_1 (by decide) ?_
  refine kSi (As := [.int p0, .int 8]) (rest := []) ⟨hx, hb, hml, hown, hts⟩ (okX5_isWithin l D cy A (wX cy ad S) p0 8 _ rfl) (va_cwS 2 hts gX5_rank_X5_isWithin rfl rfl rfl (by decide +kernel) ⟨Nat.le_of_ble_eq_true rfl, Nat.le_of_ble_eq_true rfl⟩) hK hP hS rfl hl.1 rfl (Nat.le_of_ble_eq_true rfl) dX5_rank_3 (fun H locs hP hS => ?_)
  refine lv_if_ne (tgt := 12) hx hb dX5_rank_6 (by decide) (fun c51 => ?_) (fun c51 => ?_)
  · have hf := (if_neg c51).symm.trans hf
    refine lv_aload_n hx hb dX5_rank_12 rfl (lv_at hl 0 rfl) ?_
    obtain ⟨S53, h52, hf⟩ := ob1_some hf
    refine kVv (As := []) (rest := []) ⟨hx, hb, hml, hown, hts⟩ (okX5_fillChain l D cy ad A hD  S S53 h52) (cwV 0 hts gX5_rank_X5_fillChain rfl rfl rfl (by decide +kernel) ⟨Nat.le_of_ble_eq_true rfl, Nat.le_of_ble_eq_true rfl⟩) hK hP hS (va_recv hK.1 hP (ci := 5) (q := (RX5, TX5, 9)) rfl (atX0 cy ad S)) rfl hl.1 rfl (Nat.le_of_ble_eq_true rfl) dX5_rank_13 (fun H locs hP hS => ?_)
    refine lv_aload_n hx hb dX5_rank_16 rfl (lv_at hl 0 rfl) ?_
    refine gfX5_3 hx hb hts (fun _ h => List.mem_cons_of_mem _ (List.mem_append_left _ (List.mem_append_left _ (List.mem_append_left _ (List.mem_append_left _ (List.mem_append_right _ h)))))) hown hK hP (hts (Cond.fieldLink RX5 33 "WhoSpeaks" "chain" "LWhoSpeaks$Chain;") (List.mem_of_getElem? (i := 1) rfl)) dX5_rank_17 ?_
    obtain ⟨r54, S56, h55, hf⟩ := ob2_some hf
    refine kVl (As := []) (rest := []) ⟨hx, hb, hml, hown, hts⟩ (okX0_countWays l D cy ad A hD  S53 r54 S56 h55) (cwV 0 hts gX5_rank_X0_countWays rfl rfl rfl (by decide +kernel) ⟨Nat.le_of_ble_eq_true rfl, Nat.le_of_ble_eq_true rfl⟩) hK hP hS (va_recv hK.1 hP (ci := 0) (q := (RX0, TX0, 9)) rfl (atX7 cy ad S53)) rfl hl.1 rfl (Nat.le_of_ble_eq_true rfl) dX5_rank_20 (fun H locs hP hS => ?_)
    refine lv_pop2_2 hx hb dX5_rank_23 rfl ?_
    refine lv_iconst (v := 0) hx hb dX5_rank_24 (by decide) ?_
    refine lv_istore_n (lv' := [(2, .int 0), (0, .ref (ad 0)), (1, .int p0)]) hx hb dX5_rank_25 rfl hl (by decide) rfl (fun ls hl => ?_)
    exact K26  FU (p0) (0) S56 H locs ls hP hS (lv_sub hl [1, 2, 0] rfl) hf
  · have hf := (if_pos c51).symm.trans hf
    refine lv_bipush (v := (-2)) hx hb dX5_rank_9 (by decide) ?_
    obtain ⟨he, hS9⟩ := Prod.mk.inj (Option.some.inj hf)
    subst hS9
    exact rI hx hb hr hP hS he hlocks dX5_rank_11

def bX5_memberOf_4  (k4 : Int32 × Int32 × Int32 × Int32 → Option Int32) (x0 : Int32) (x1 : Int32) (x2 : Int32) (x3 : Int32) : Option Int32 := (if 8 ≤ x3 then (some (-9)) else (if (x0 &&& (fX5_bitOf x3)) = 0 then (k4 (x0, x1, x2, (x3 + 1))) else (if x2 = x1 then (some x3) else (k4 (x0, x1, (x2 + 1), (x3 + 1))))))
def fX5_memberOf (p0 : Int32) (p1 : Int32) : Option Int32 := (lp (fun k q => bX5_memberOf_4  k q.1 q.2.1 q.2.2.1 q.2.2.2) FU (p0, p1, 0, 0))
set_option maxHeartbeats 4000000 in
set_option maxRecDepth 100000 in
theorem okX5_memberOf (l : Launch) (D : va_G) (cy : Nat → ClassId) (A : Nat → Prop) (w : va_W) (p0 : Int32) (p1 : Int32) (r : Int32) (hf : fX5_memberOf p0 p1 = some r) : MI l yX5_memberOf wsX5_memberOf { frames := 1, cells := 0, slots := 0, locals := 20 } D cy A w [.int p0, .int p1] r w := by
  refine Met.ofW (cc := cX5_memberOf) (maxL := 4) (ret := (some .int)) (by decide) rfl ?_
  intro p e s m args below meth c s₁ B hml hv
  obtain ⟨ha, hP, hK⟩ := hv
  have hx := B.exec
  have hb := B.bytes
  have hr := B.returns
  have hts := atoms_spec (ws := wsX5_memberOf) B.pre
  have hown : s.vm.findClass RX5 = some m.cls := findClass_of_methodNamed B.named
  have hlocks := B.notSynchronized
  have hS : va_S A s.heap s.heap [] := va_S.rf
  obtain ⟨ls, hl, he0⟩ := ent (m := m) ha (n := 4) (Nat.le_of_ble_eq_true rfl)
  refine W.eq he0 ?_
  have hl : lv_has ls 4 [(0, .int p0), (1, .int p1)] := hl
  have K4 : ∀ (n : Nat), ∀ (x0 : Int32) (x1 : Int32) (x2 : Int32) (x3 : Int32) (H : Heap) (locs : List Loc) (ls : Array Slot), va_P D vwCl w H → va_S A s.heap H locs → lv_has ls 4 [(0, .int x0), (1, .int x1), (2, .int x2), (3, .int x3)] → lp (fun k q => bX5_memberOf_4  k q.1 q.2.1 q.2.2.1 q.2.2.2) n (x0, x1, x2, x3) = some r → W p l e (headSpec wsX5_memberOf { frames := 1, cells := 0, slots := 0, locals := 20 }).room s m args below meth c H locs 0 0 (MQ below (QcI D A r w) args s 0 0 A) (F0 m 4 ls []) := by
    intro  n
    induction n with
    | zero =>
      intro x0 x1 x2 x3 H locs ls hP hS hl hf
      cases hf
    | succ n ih4 =>
      intro x0 x1 x2 x3 H locs ls hP hS hl hf
      have hf : bX5_memberOf_4  (lp (fun k q => bX5_memberOf_4  k q.1 q.2.1 q.2.2.1 q.2.2.2) n) x0 x1 x2 x3 = some r := hf
      generalize lp (fun k q => bX5_memberOf_4  k q.1 q.2.1 q.2.2.1 q.2.2.2) n = k4 at hf ih4
      unfold bX5_memberOf_4 at hf
      refine lv_iload_n hx hb dX5_memberOf_4 rfl (lv_at hl 3 rfl) ?_
      refine lv_bipush (v := 8) hx hb dX5_memberOf_5 (by decide) ?_
      refine lv_icmp_ge (tgt := 35) hx hb dX5_memberOf_7 (by decide) (fun c10 => ?_) (fun c10 => ?_)
      · have hf := (if_pos c10).symm.trans hf
        refine lv_bipush (v := (-9)) hx hb dX5_memberOf_35 (by decide) ?_
        have he := Option.some.inj hf
        exact rI hx hb hr hP hS he hlocks dX5_memberOf_37
      · have hf := (if_neg c10).symm.trans hf
        refine lv_iload_n hx hb dX5_memberOf_10 rfl (lv_at hl 0 rfl) ?_
        refine lv_iload_n hx hb dX5_memberOf_11 rfl (lv_at hl 3 rfl) ?_
        refine kSi (As := [.int x3]) (rest := [.int x0]) ⟨hx, hb, hml, hown, hts⟩ (okX5_bitOf l D cy A w x3 _ rfl) (va_cwS 1 hts gX5_memberOf_X5_bitOf rfl rfl rfl (by decide +kernel) ⟨Nat.le_of_ble_eq_true rfl, Nat.le_of_ble_eq_true rfl⟩) hK hP hS rfl hl.1 rfl (Nat.le_of_ble_eq_true rfl) dX5_memberOf_12 (fun H locs hP hS => ?_)
        refine lv_iand hx hb dX5_memberOf_15 ?_
        refine lv_if_eq (tgt := 29) hx hb dX5_memberOf_16 (by decide) (fun c12 => ?_) (fun c12 => ?_)
        · have hf := (if_pos c12).symm.trans hf
          refine lv_iinc (v := (x3 + 1)) (lv' := [(3, .int (x3 + 1)), (0, .int x0), (1, .int x1), (2, .int x2)]) hx hb dX5_memberOf_29 hl (k := 3) rfl rfl (by decide) rfl (fun ls hl => ?_)
          refine lv_goto (tgt := 4) hx hb dX5_memberOf_32 (by decide) ?_
          exact ih4 (x0) (x1) (x2) ((x3 + 1)) H locs ls hP hS (lv_sub hl [1, 2, 3, 0] rfl) hf
        · have hf := (if_neg c12).symm.trans hf
          refine lv_iload_n hx hb dX5_memberOf_19 rfl (lv_at hl 2 rfl) ?_
          refine lv_iload_n hx hb dX5_memberOf_20 rfl (lv_at hl 1 rfl) ?_
          refine lv_icmp_ne (tgt := 26) hx hb dX5_memberOf_21 (by decide) (fun c13 => ?_) (fun c13 => ?_)
          · have hf := (if_neg c13).symm.trans hf
            refine lv_iinc (v := (x2 + 1)) (lv' := [(2, .int (x2 + 1)), (0, .int x0), (1, .int x1), (3, .int x3)]) hx hb dX5_memberOf_26 hl (k := 2) rfl rfl (by decide) rfl (fun ls hl => ?_)
            refine lv_iinc (v := (x3 + 1)) (lv' := [(3, .int (x3 + 1)), (2, .int (x2 + 1)), (0, .int x0), (1, .int x1)]) hx hb dX5_memberOf_29 hl (k := 3) rfl rfl (by decide) rfl (fun ls hl => ?_)
            refine lv_goto (tgt := 4) hx hb dX5_memberOf_32 (by decide) ?_
            exact ih4 (x0) (x1) ((x2 + 1)) ((x3 + 1)) H locs ls hP hS (lv_sub hl [2, 3, 1, 0] rfl) hf
          · have hf := (if_pos c13).symm.trans hf
            refine lv_iload_n hx hb dX5_memberOf_24 rfl (lv_at hl 3 rfl) ?_
            have he := Option.some.inj hf
            exact rI hx hb hr hP hS he hlocks dX5_memberOf_25
  unfold fX5_memberOf at hf
  suffices hG : ∀ (H : Heap) (locs : List Loc), va_P D vwCl w H → va_S A s.heap H locs → W p l e (headSpec wsX5_memberOf { frames := 1, cells := 0, slots := 0, locals := 20 }).room s m args below meth c H locs 0 0 (MQ below (QcI D A r w) args s 0 0 A) (F0 m 0 ls []) by exact hG s.heap [] hP va_S.rf
  clear hP hS
  intro H locs hP hS
  refine lv_iconst (v := 0) hx hb dX5_memberOf_0 (by decide) ?_
  refine lv_istore_n (lv' := [(2, .int 0), (0, .int p0), (1, .int p1)]) hx hb dX5_memberOf_1 rfl hl (by decide) rfl (fun ls hl => ?_)
  refine lv_iconst (v := 0) hx hb dX5_memberOf_2 (by decide) ?_
  refine lv_istore_n (lv' := [(3, .int 0), (2, .int 0), (0, .int p0), (1, .int p1)]) hx hb dX5_memberOf_3 rfl hl (by decide) rfl (fun ls hl => ?_)
  exact K4  FU (p0) (p1) (0) (0) H locs ls hP hS (lv_sub hl [2, 3, 1, 0] rfl) hf

def fX5_signOfSet (p0 : Int32) (p1 : Int32) : Option Int32 := (bnd (((2 * (fJ6_bitCount_0f7a4 p0)) - 1)) (fun y6 => (if p1 = (-1) then (some y6) else (if p1 < y6 then (if (p1 - p1 / 2 * 2) = 1 then (some 47) else (ob1 (fX5_memberOf p0 (p1 / 2)) (fun r10 => (some (65 + r10))))) else (some (-9))))))
set_option maxHeartbeats 4000000 in
set_option maxRecDepth 100000 in
theorem okX5_signOfSet (l : Launch) (D : va_G) (cy : Nat → ClassId) (A : Nat → Prop) (w : va_W) (p0 : Int32) (p1 : Int32) (r : Int32) (hf : fX5_signOfSet p0 p1 = some r) : MI l yX5_signOfSet wsX5_signOfSet { frames := 2, cells := 0, slots := 0, locals := 43 } D cy A w [.int p0, .int p1] r w := by
  refine Met.ofW (cc := cX5_signOfSet) (maxL := 3) (ret := (some .int)) (by decide) rfl ?_
  intro p e s m args below meth c s₁ B hml hv
  obtain ⟨ha, hP, hK⟩ := hv
  have hx := B.exec
  have hb := B.bytes
  have hr := B.returns
  have hts := atoms_spec (ws := wsX5_signOfSet) B.pre
  have hown : s.vm.findClass RX5 = some m.cls := findClass_of_methodNamed B.named
  have hlocks := B.notSynchronized
  have hS : va_S A s.heap s.heap [] := va_S.rf
  obtain ⟨ls, hl, he0⟩ := ent (m := m) ha (n := 3) (Nat.le_of_ble_eq_true rfl)
  refine W.eq he0 ?_
  have hl : lv_has ls 3 [(0, .int p0), (1, .int p1)] := hl
  unfold fX5_signOfSet at hf
  suffices hG : ∀ (H : Heap) (locs : List Loc), va_P D vwCl w H → va_S A s.heap H locs → W p l e (headSpec wsX5_signOfSet { frames := 2, cells := 0, slots := 0, locals := 43 }).room s m args below meth c H locs 0 0 (MQ below (QcI D A r w) args s 0 0 A) (F0 m 0 ls []) by exact hG s.heap [] hP va_S.rf
  clear hP hS
  intro H locs hP hS
  refine lv_iconst (v := 2) hx hb dX5_signOfSet_0 (by decide) ?_
  refine lv_iload_n hx hb dX5_signOfSet_1 rfl (lv_at hl 0 rfl) ?_
  refine kSi (As := [.int p0]) (rest := [.int 2]) ⟨hx, hb, hml, hown, hts⟩ (okJ6_bitCount_0f7a4 l D cy A w p0 _ rfl) (va_cwS 1 hts gX5_signOfSet_J6_bitCount_0f7a4 rfl rfl rfl (by decide +kernel) ⟨Nat.le_of_ble_eq_true rfl, Nat.le_of_ble_eq_true rfl⟩) hK hP hS rfl hl.1 rfl (Nat.le_of_ble_eq_true rfl) dX5_signOfSet_2 (fun H locs hP hS => ?_)
  refine lv_imul hx hb dX5_signOfSet_5 ?_
  refine lv_iconst (v := 1) hx hb dX5_signOfSet_6 (by decide) ?_
  refine lv_isub hx hb dX5_signOfSet_7 ?_
  refine lv_topi (fun y6 ey6 => ?_)
  have hf := bnd_of ey6 hf
  refine lv_istore_n (lv' := [(2, .int y6), (0, .int p0), (1, .int p1)]) hx hb dX5_signOfSet_8 rfl hl (by decide) rfl (fun ls hl => ?_)
  refine lv_iload_n hx hb dX5_signOfSet_9 rfl (lv_at hl 2 rfl) ?_
  refine lv_iconst (v := (-1)) hx hb dX5_signOfSet_10 (by decide) ?_
  refine lv_icmp_ne (tgt := 16) hx hb dX5_signOfSet_11 (by decide) (fun c7 => ?_) (fun c7 => ?_)
  · have hf := (if_neg c7).symm.trans hf
    refine lv_iload_n hx hb dX5_signOfSet_16 rfl (lv_at hl 2 rfl) ?_
    refine lv_iload_n hx hb dX5_signOfSet_17 rfl (lv_at hl 0 rfl) ?_
    refine lv_icmp_lt (tgt := 24) hx hb dX5_signOfSet_18 (by decide) (fun c8 => ?_) (fun c8 => ?_)
    · have hf := (if_pos c8).symm.trans hf
      refine lv_iload_n hx hb dX5_signOfSet_24 rfl (lv_at hl 2 rfl) ?_
      refine lv_iconst (v := 2) hx hb dX5_signOfSet_25 (by decide) ?_
      refine lv_irem hx hb dX5_signOfSet_26 (by decide) ?_
      refine lv_iconst (v := 1) hx hb dX5_signOfSet_27 (by decide) ?_
      refine lv_icmp_ne (tgt := 36) hx hb dX5_signOfSet_28 (by decide) (fun c9 => ?_) (fun c9 => ?_)
      · have hf := (if_neg c9).symm.trans hf
        refine lv_bipush (v := 65) hx hb dX5_signOfSet_36 (by decide) ?_
        refine lv_iload_n hx hb dX5_signOfSet_38 rfl (lv_at hl 1 rfl) ?_
        refine lv_iload_n hx hb dX5_signOfSet_39 rfl (lv_at hl 2 rfl) ?_
        refine lv_iconst (v := 2) hx hb dX5_signOfSet_40 (by decide) ?_
        refine lv_idiv hx hb dX5_signOfSet_41 (by decide) ?_
        obtain ⟨r10, h11, hf⟩ := ob1_some hf
        refine kSi (As := [.int p0, .int (p1 / 2)]) (rest := [.int 65]) ⟨hx, hb, hml, hown, hts⟩ (okX5_memberOf l D cy A w p0 (p1 / 2) r10 h11) (va_cwS 2 hts gX5_signOfSet_X5_memberOf rfl rfl rfl (by decide +kernel) ⟨Nat.le_of_ble_eq_true rfl, Nat.le_of_ble_eq_true rfl⟩) hK hP hS rfl hl.1 rfl (Nat.le_of_ble_eq_true rfl) dX5_signOfSet_42 (fun H locs hP hS => ?_)
        refine lv_iadd hx hb dX5_signOfSet_45 ?_
        have he := Option.some.inj hf
        exact rI hx hb hr hP hS he hlocks dX5_signOfSet_46
      · have hf := (if_pos c9).symm.trans hf
        refine lv_bipush (v := 47) hx hb dX5_signOfSet_31 (by decide) ?_
        refine lv_goto (tgt := 46) hx hb dX5_signOfSet_33 (by decide) ?_
        have he := Option.some.inj hf
        exact rI hx hb hr hP hS he hlocks dX5_signOfSet_46
    · have hf := (if_neg c8).symm.trans hf
      refine lv_bipush (v := (-9)) hx hb dX5_signOfSet_21 (by decide) ?_
      have he := Option.some.inj hf
      exact rI hx hb hr hP hS he hlocks dX5_signOfSet_23
  · have hf := (if_pos c7).symm.trans hf
    refine lv_iload_n hx hb dX5_signOfSet_14 rfl (lv_at hl 0 rfl) ?_
    have he := Option.some.inj hf
    exact rI hx hb hr hP hS he hlocks dX5_signOfSet_15

def fX5_signOfOne (p0 : Int32) (p1 : Int32) : Int32 := (if p1 = (-1) then 1 else (if p1 = 0 then p0 else (-9)))
set_option maxHeartbeats 4000000 in
set_option maxRecDepth 100000 in
theorem okX5_signOfOne (l : Launch) (D : va_G) (cy : Nat → ClassId) (A : Nat → Prop) (w : va_W) (p0 : Int32) (p1 : Int32) (r : Int32) (hf : fX5_signOfOne p0 p1 = r) : MI l yX5_signOfOne wsX5_signOfOne { frames := 0, cells := 0, slots := 0, locals := 0 } D cy A w [.int p0, .int p1] r w := by
  refine Met.ofW (cc := cX5_signOfOne) (maxL := 2) (ret := (some .int)) (by decide) rfl ?_
  intro p e s m args below meth c s₁ B hml hv
  obtain ⟨ha, hP, hK⟩ := hv
  have hx := B.exec
  have hb := B.bytes
  have hr := B.returns
  have hts := atoms_spec (ws := wsX5_signOfOne) B.pre
  have hown : s.vm.findClass RX5 = some m.cls := findClass_of_methodNamed B.named
  have hlocks := B.notSynchronized
  have hS : va_S A s.heap s.heap [] := va_S.rf
  obtain ⟨ls, hl, he0⟩ := ent (m := m) ha (n := 2) (Nat.le_of_ble_eq_true rfl)
  refine W.eq he0 ?_
  have hl : lv_has ls 2 [(0, .int p0), (1, .int p1)] := hl
  unfold fX5_signOfOne at hf
  suffices hG : ∀ (H : Heap) (locs : List Loc), va_P D vwCl w H → va_S A s.heap H locs → W p l e (headSpec wsX5_signOfOne { frames := 0, cells := 0, slots := 0, locals := 0 }).room s m args below meth c H locs 0 0 (MQ below (QcI D A r w) args s 0 0 A) (F0 m 0 ls []) by exact hG s.heap [] hP va_S.rf
  clear hP hS
  intro H locs hP hS
  refine lv_iload_n hx hb dX5_signOfOne_0 rfl (lv_at hl 1 rfl) ?_
  refine lv_iconst (v := (-1)) hx hb dX5_signOfOne_1 (by decide) ?_
  refine lv_icmp_ne (tgt := 7) hx hb dX5_signOfOne_2 (by decide) (fun c3 => ?_) (fun c3 => ?_)
  · have hf := (if_neg c3).symm.trans hf
    refine lv_iload_n hx hb dX5_signOfOne_7 rfl (lv_at hl 1 rfl) ?_
    refine lv_if_ne (tgt := 15) hx hb dX5_signOfOne_8 (by decide) (fun c4 => ?_) (fun c4 => ?_)
    · have hf := (if_neg c4).symm.trans hf
      refine lv_bipush (v := (-9)) hx hb dX5_signOfOne_15 (by decide) ?_
      have he := hf
      exact rI hx hb hr hP hS he hlocks dX5_signOfOne_17
    · have hf := (if_pos c4).symm.trans hf
      refine lv_iload_n hx hb dX5_signOfOne_11 rfl (lv_at hl 0 rfl) ?_
      refine lv_goto (tgt := 17) hx hb dX5_signOfOne_12 (by decide) ?_
      have he := hf
      exact rI hx hb hr hP hS he hlocks dX5_signOfOne_17
  · have hf := (if_pos c3).symm.trans hf
    refine lv_iconst (v := 1) hx hb dX5_signOfOne_5 (by decide) ?_
    have he := hf
    exact rI hx hb hr hP hS he hlocks dX5_signOfOne_6

def fX5_written (p0 : Int32) (p1 : Int32) (S : XS) : Option (Int32 × XS) := (if (bi (fX3_holds p0 S)) = 0 then (some ((-1), S)) else (if p1 < (-1) then (some ((-2), S)) else (if p1 ≤ 14 then (ob1 (fX3_paragraphAt p0 S) (fun r10 => (ob1 (fX1_speaks r10 S) (fun r12 => (if (bi r12) = 0 then (some ((fX5_signOfOne 46 p1), S)) else (ob1 (fX5_fillChain  S) (fun S16 => (ob1 (fX0_narrow  S16) (fun S18 => (ob1 (fX0_narrowedSet p0 S18) (fun r19 => (if r19 = 0 then (some ((fX5_signOfOne 33 p1), S18)) else (ob1 (fX5_signOfSet r19 p1) (fun r22 => (some (r22, S18)))))))))))))))) else (some ((-2), S)))))
set_option maxHeartbeats 4000000 in
set_option maxRecDepth 100000 in
theorem okX5_written (l : Launch) (D : va_G) (cy : Nat → ClassId) (ad : Nat → Nat) (A : Nat → Prop) (hD : ∀ S, va_D A (wX cy ad S)) (p0 : Int32) (p1 : Int32) (S : XS) (r : Int32) (S' : XS) (hf : fX5_written p0 p1 S = some (r, S')) : MI l yX5_written wsX5_written { frames := 5, cells := 0, slots := 0, locals := 109 } D cy A (wX cy ad S) [.ref (ad 0), .int p0, .int p1] r (wX cy ad S') := by
  refine Met.ofW (cc := cX5_written) (maxL := 4) (ret := (some .int)) (by decide) rfl ?_
  intro p e s m args below meth c s₁ B hml hv
  obtain ⟨ha, hP, hK⟩ := hv
  have hx := B.exec
  have hb := B.bytes
  have hr := B.returns
  have hts := atoms_spec (ws := wsX5_written) B.pre
  have hown : s.vm.findClass RX5 = some m.cls := findClass_of_methodNamed B.named
  have hlocks := B.notSynchronized
  have hS : va_S A s.heap s.heap [] := va_S.rf
  obtain ⟨ls, hl, he0⟩ := ent (m := m) ha (n := 4) (Nat.le_of_ble_eq_true rfl)
  refine W.eq he0 ?_
  have hl : lv_has ls 4 [(0, .ref (ad 0)), (1, .int p0), (2, .int p1)] := hl
  unfold fX5_written at hf
  suffices hG : ∀ (H : Heap) (locs : List Loc), va_P D vwCl (wX cy ad S) H → va_S A s.heap H locs → W p l e (headSpec wsX5_written { frames := 5, cells := 0, slots := 0, locals := 109 }).room s m args below meth c H locs 0 0 (MQ below (QcI D A r (wX cy ad S')) args s 0 0 A) (F0 m 0 ls []) by exact hG s.heap [] hP va_S.rf
  clear hP hS
  intro H locs hP hS
  refine lv_aload_n hx hb dX5_written_0 rfl (lv_at hl 0 rfl) ?_
  refine gfX5_2 hx hb hts (fun _ h => List.mem_cons_of_mem _ (List.mem_append_left _ (List.mem_append_left _ (List.mem_append_left _ (List.mem_append_left _ (List.mem_append_right _ h)))))) hown hK hP (hts (Cond.fieldLink RX5 26 "WhoSpeaks" "story" "LWhoSpeaks$Story;") (List.mem_of_getElem? (i := 1) rfl)) dX5_written_1 ?_
  refine lv_iload_n hx hb dX5_written_4 rfl (lv_at hl 1 rfl) ?_
  refine kVi (As := [.int p0]) (rest := []) ⟨hx, hb, hml, hown, hts⟩ (okX3_holds l D cy ad A hD p0 S _ rfl) (cwV 1 hts gX5_written_X3_holds rfl rfl rfl (by decide +kernel) ⟨Nat.le_of_ble_eq_true rfl, Nat.le_of_ble_eq_true rfl⟩) hK hP hS (va_recv hK.1 hP (ci := 3) (q := (RX3, TX3, 3)) rfl (atX5 cy ad S)) rfl hl.1 rfl (Nat.le_of_ble_eq_true rfl) dX5_written_5 (fun H locs hP hS => ?_)
  refine lv_if_ne (tgt := 13) hx hb dX5_written_8 (by decide) (fun c7 => ?_) (fun c7 => ?_)
  · have hf := (if_neg c7).symm.trans hf
    refine lv_iload_n hx hb dX5_written_13 rfl (lv_at hl 2 rfl) ?_
    refine lv_iconst (v := (-1)) hx hb dX5_written_14 (by decide) ?_
    refine lv_icmp_lt (tgt := 24) hx hb dX5_written_15 (by decide) (fun c8 => ?_) (fun c8 => ?_)
    · have hf := (if_pos c8).symm.trans hf
      refine lv_bipush (v := (-2)) hx hb dX5_written_24 (by decide) ?_
      obtain ⟨he, hS9⟩ := Prod.mk.inj (Option.some.inj hf)
      subst hS9
      exact rI hx hb hr hP hS he hlocks dX5_written_26
    · have hf := (if_neg c8).symm.trans hf
      refine lv_iload_n hx hb dX5_written_18 rfl (lv_at hl 2 rfl) ?_
      refine lv_bipush (v := 14) hx hb dX5_written_19 (by decide) ?_
      refine lv_icmp_le (tgt := 27) hx hb dX5_written_21 (by decide) (fun c9 => ?_) (fun c9 => ?_)
      · have hf := (if_pos c9).symm.trans hf
        refine lv_aload_n hx hb dX5_written_27 rfl (lv_at hl 0 rfl) ?_
        refine gfX5_2 hx hb hts (fun _ h => List.mem_cons_of_mem _ (List.mem_append_left _ (List.mem_append_left _ (List.mem_append_left _ (List.mem_append_left _ (List.mem_append_right _ h)))))) hown hK hP (hts (Cond.fieldLink RX5 26 "WhoSpeaks" "story" "LWhoSpeaks$Story;") (List.mem_of_getElem? (i := 1) rfl)) dX5_written_28 ?_
        refine lv_iload_n hx hb dX5_written_31 rfl (lv_at hl 1 rfl) ?_
        obtain ⟨r10, h11, hf⟩ := ob1_some hf
        refine kVr (As := [.int p0]) (rest := []) ⟨hx, hb, hml, hown, hts⟩ (okX3_paragraphAt l D cy ad A hD p0 S r10 h11) (cwV 1 hts gX5_written_X3_paragraphAt rfl rfl rfl (by decide +kernel) ⟨Nat.le_of_ble_eq_true rfl, Nat.le_of_ble_eq_true rfl⟩) hK hP hS (va_recv hK.1 hP (ci := 3) (q := (RX3, TX3, 3)) rfl (atX5 cy ad S)) rfl hl.1 rfl (Nat.le_of_ble_eq_true rfl) dX5_written_32 (fun H locs hP hS => ?_)
        obtain ⟨r12, h13, hf⟩ := ob1_some hf
        refine kVi (As := []) (rest := []) ⟨hx, hb, hml, hown, hts⟩ (okX1_speaks l D cy ad A hD r10 S r12 h13) (cwV 0 hts gX5_written_X1_speaks rfl rfl rfl (by decide +kernel) ⟨Nat.le_of_ble_eq_true rfl, Nat.le_of_ble_eq_true rfl⟩) hK hP hS (va_recv hK.1 hP (ci := 1) (q := (RX1, TX1, 14)) rfl (atP0 cy ad S r10 (ck_no h13).1)) rfl hl.1 rfl (Nat.le_of_ble_eq_true rfl) dX5_written_35 (fun H locs hP hS => ?_)
        refine lv_if_ne (tgt := 48) hx hb dX5_written_38 (by decide) (fun c14 => ?_) (fun c14 => ?_)
        · have hf := (if_neg c14).symm.trans hf
          refine lv_aload_n hx hb dX5_written_48 rfl (lv_at hl 0 rfl) ?_
          obtain ⟨S16, h15, hf⟩ := ob1_some hf
          refine kVv (As := []) (rest := []) ⟨hx, hb, hml, hown, hts⟩ (okX5_fillChain l D cy ad A hD  S S16 h15) (cwV 0 hts gX5_written_X5_fillChain rfl rfl rfl (by decide +kernel) ⟨Nat.le_of_ble_eq_true rfl, Nat.le_of_ble_eq_true rfl⟩) hK hP hS (va_recv hK.1 hP (ci := 5) (q := (RX5, TX5, 9)) rfl (atX0 cy ad S)) rfl hl.1 rfl (Nat.le_of_ble_eq_true rfl) dX5_written_49 (fun H locs hP hS => ?_)
          refine lv_aload_n hx hb dX5_written_52 rfl (lv_at hl 0 rfl) ?_
          refine gfX5_3 hx hb hts (fun _ h => List.mem_cons_of_mem _ (List.mem_append_left _ (List.mem_append_left _ (List.mem_append_left _ (List.mem_append_left _ (List.mem_append_right _ h)))))) hown hK hP (hts (Cond.fieldLink RX5 33 "WhoSpeaks" "chain" "LWhoSpeaks$Chain;") (List.mem_of_getElem? (i := 2) rfl)) dX5_written_53 ?_
          obtain ⟨S18, h17, hf⟩ := ob1_some hf
          refine kVv (As := []) (rest := []) ⟨hx, hb, hml, hown, hts⟩ (okX0_narrow l D cy ad A hD  S16 S18 h17) (cwV 0 hts gX5_written_X0_narrow rfl rfl rfl (by decide +kernel) ⟨Nat.le_of_ble_eq_true rfl, Nat.le_of_ble_eq_true rfl⟩) hK hP hS (va_recv hK.1 hP (ci := 0) (q := (RX0, TX0, 9)) rfl (atX7 cy ad S16)) rfl hl.1 rfl (Nat.le_of_ble_eq_true rfl) dX5_written_56 (fun H locs hP hS => ?_)
          refine lv_aload_n hx hb dX5_written_59 rfl (lv_at hl 0 rfl) ?_
          refine gfX5_3 hx hb hts (fun _ h => List.mem_cons_of_mem _ (List.mem_append_left _ (List.mem_append_left _ (List.mem_append_left _ (List.mem_append_left _ (List.mem_append_right _ h)))))) hown hK hP (hts (Cond.fieldLink RX5 33 "WhoSpeaks" "chain" "LWhoSpeaks$Chain;") (List.mem_of_getElem? (i := 2) rfl)) dX5_written_60 ?_
          refine lv_iload_n hx hb dX5_written_63 rfl (lv_at hl 1 rfl) ?_
          obtain ⟨r19, h20, hf⟩ := ob1_some hf
          refine kVi (As := [.int p0]) (rest := []) ⟨hx, hb, hml, hown, hts⟩ (okX0_narrowedSet l D cy ad A hD p0 S18 r19 h20) (cwV 1 hts gX5_written_X0_narrowedSet rfl rfl rfl (by decide +kernel) ⟨Nat.le_of_ble_eq_true rfl, Nat.le_of_ble_eq_true rfl⟩) hK hP hS (va_recv hK.1 hP (ci := 0) (q := (RX0, TX0, 9)) rfl (atX7 cy ad S18)) rfl hl.1 rfl (Nat.le_of_ble_eq_true rfl) dX5_written_64 (fun H locs hP hS => ?_)
          refine lv_istore_n (lv' := [(3, .int r19), (0, .ref (ad 0)), (1, .int p0), (2, .int p1)]) hx hb dX5_written_67 rfl hl (by decide) rfl (fun ls hl => ?_)
          refine lv_iload_n hx hb dX5_written_68 rfl (lv_at hl 0 rfl) ?_
          refine lv_if_ne (tgt := 81) hx hb dX5_written_69 (by decide) (fun c21 => ?_) (fun c21 => ?_)
          · have hf := (if_neg c21).symm.trans hf
            refine lv_iload_n hx hb dX5_written_81 rfl (lv_at hl 0 rfl) ?_
            refine lv_iload_n hx hb dX5_written_82 rfl (lv_at hl 3 rfl) ?_
            obtain ⟨r22, h23, hf⟩ := ob1_some hf
            refine kSi (As := [.int r19, .int p1]) (rest := []) ⟨hx, hb, hml, hown, hts⟩ (okX5_signOfSet l D cy A (wX cy ad S18) r19 p1 r22 h23) (va_cwS 2 hts gX5_written_X5_signOfSet rfl rfl rfl (by decide +kernel) ⟨Nat.le_of_ble_eq_true rfl, Nat.le_of_ble_eq_true rfl⟩) hK hP hS rfl hl.1 rfl (Nat.le_of_ble_eq_true rfl) dX5_written_83 (fun H locs hP hS => ?_)
            obtain ⟨he, hS9⟩ := Prod.mk.inj (Option.some.inj hf)
            subst hS9
            exact rI hx hb hr hP hS he hlocks dX5_written_86
          · have hf := (if_pos c21).symm.trans hf
            refine lv_bipush (v := 33) hx hb dX5_written_72 (by decide) ?_
            refine lv_iload_n hx hb dX5_written_74 rfl (lv_at hl 3 rfl) ?_
            refine kSi (As := [.int 33, .int p1]) (rest := []) ⟨hx, hb, hml, hown, hts⟩ (okX5_signOfOne l D cy A (wX cy ad S18) 33 p1 _ rfl) (va_cwS 2 hts gX5_written_X5_signOfOne rfl rfl rfl (by decide +kernel) ⟨Nat.le_of_ble_eq_true rfl, Nat.le_of_ble_eq_true rfl⟩) hK hP hS rfl hl.1 rfl (Nat.le_of_ble_eq_true rfl) dX5_written_75 (fun H locs hP hS => ?_)
            refine lv_goto (tgt := 86) hx hb dX5_written_78 (by decide) ?_
            obtain ⟨he, hS9⟩ := Prod.mk.inj (Option.some.inj hf)
            subst hS9
            exact rI hx hb hr hP hS he hlocks dX5_written_86
        · have hf := (if_pos c14).symm.trans hf
          refine lv_bipush (v := 46) hx hb dX5_written_41 (by decide) ?_
          refine lv_iload_n hx hb dX5_written_43 rfl (lv_at hl 2 rfl) ?_
          refine kSi (As := [.int 46, .int p1]) (rest := []) ⟨hx, hb, hml, hown, hts⟩ (okX5_signOfOne l D cy A (wX cy ad S) 46 p1 _ rfl) (va_cwS 2 hts gX5_written_X5_signOfOne rfl rfl rfl (by decide +kernel) ⟨Nat.le_of_ble_eq_true rfl, Nat.le_of_ble_eq_true rfl⟩) hK hP hS rfl hl.1 rfl (Nat.le_of_ble_eq_true rfl) dX5_written_44 (fun H locs hP hS => ?_)
          obtain ⟨he, hS9⟩ := Prod.mk.inj (Option.some.inj hf)
          subst hS9
          exact rI hx hb hr hP hS he hlocks dX5_written_47
      · have hf := (if_neg c9).symm.trans hf
        refine lv_bipush (v := (-2)) hx hb dX5_written_24 (by decide) ?_
        obtain ⟨he, hS9⟩ := Prod.mk.inj (Option.some.inj hf)
        subst hS9
        exact rI hx hb hr hP hS he hlocks dX5_written_26
  · have hf := (if_pos c7).symm.trans hf
    refine lv_iconst (v := (-1)) hx hb dX5_written_11 (by decide) ?_
    obtain ⟨he, hS9⟩ := Prod.mk.inj (Option.some.inj hf)
    subst hS9
    exact rI hx hb hr hP hS he hlocks dX5_written_12
