def bX0_conflictEnd_2  (k2 : Int32 × XS → Option (Int32 × XS)) (x1 : Int32) (S : XS) : Option (Int32 × XS) := (if (xi S 5) ≤ x1 then (some ((-9), S)) else (ob2 (fX0_waysWithin 0 x1 S) (fun r8 S10 => (if (lg_cmp r8 0) = 0 then (some (x1, S10)) else (k2 ((x1 + 1), S10))))))
def fX0_conflictEnd  (S : XS) : Option (Int32 × XS) := (lp (fun k q => bX0_conflictEnd_2  k q.1 q.2) FU (0, S))
set_option maxHeartbeats 4000000 in
set_option maxRecDepth 100000 in
theorem okX0_conflictEnd (l : Launch) (D : va_G) (cy : Nat → ClassId) (ad : Nat → Nat) (A : Nat → Prop) (hD : ∀ S, va_D A (wX cy ad S))  (S : XS) (r : Int32) (S' : XS) (hf : fX0_conflictEnd  S = some (r, S')) : MI l yX0_conflictEnd wsX0_conflictEnd { frames := 5, cells := 0, slots := 0, locals := 121 } D cy A (wX cy ad S) [.ref (ad 7)] r (wX cy ad S') := by
  refine Met.ofW (cc := cX0_conflictEnd) (maxL := 2) (ret := (some .int)) (by decide) rfl ?_
  intro p e s m args below meth c s₁ B hml hv
  obtain ⟨ha, hP, hK⟩ := hv
  have hx := B.exec
  have hb := B.bytes
  have hr := B.returns
  have hts := atoms_spec (ws := wsX0_conflictEnd) B.pre
  have hown : s.vm.findClass RX0 = some m.cls := findClass_of_methodNamed B.named
  have hlocks := B.notSynchronized
  have hS : va_S A s.heap s.heap [] := va_S.rf
  obtain ⟨ls, hl, he0⟩ := ent (m := m) ha (n := 2) (Nat.le_of_ble_eq_true rfl)
  refine W.eq he0 ?_
  have hl : lv_has ls 2 [(0, .ref (ad 7))] := hl
  have K2 : ∀ (n : Nat), ∀ (x1 : Int32) (S : XS) (H : Heap) (locs : List Loc) (ls : Array Slot), va_P D vwCl (wX cy ad S) H → va_S A s.heap H locs → lv_has ls 2 [(0, .ref (ad 7)), (1, .int x1)] → lp (fun k q => bX0_conflictEnd_2  k q.1 q.2) n (x1, S) = some (r, S') → W p l e (headSpec wsX0_conflictEnd { frames := 5, cells := 0, slots := 0, locals := 121 }).room s m args below meth c H locs 0 0 (MQ below (QcI D A r (wX cy ad S')) args s 0 0 A) (F0 m 2 ls []) := by
    intro  n
    induction n with
    | zero =>
      intro x1 S H locs ls hP hS hl hf
      cases hf
    | succ n ih2 =>
      intro x1 S H locs ls hP hS hl hf
      have hf : bX0_conflictEnd_2  (lp (fun k q => bX0_conflictEnd_2  k q.1 q.2) n) x1 S = some (r, S') := hf
      generalize lp (fun k q => bX0_conflictEnd_2  k q.1 q.2) n = k2 at hf ih2
      unfold bX0_conflictEnd_2 at hf
      refine lv_iload_n hx hb dX0_conflictEnd_2 rfl (lv_at hl 1 rfl) ?_
      refine lv_aload_n hx hb dX0_conflictEnd_3 rfl (lv_at hl 0 rfl) ?_
      refine gfX0_8 hx hb hts (fun _ h => List.mem_cons_of_mem _ (List.mem_append_right _ h)) hown hK hP (hts (Cond.fieldLink RX0 38 "WhoSpeaks$Chain" "count" "I") (List.mem_of_getElem? (i := 1) rfl)) dX0_conflictEnd_4 ?_
      refine lv_icmp_ge (tgt := 29) hx hb dX0_conflictEnd_7 (by decide) (fun c7 => ?_) (fun c7 => ?_)
      · have hf := (if_pos c7).symm.trans hf
        refine lv_bipush (v := (-9)) hx hb dX0_conflictEnd_29 (by decide) ?_
        obtain ⟨he, hS9⟩ := Prod.mk.inj (Option.some.inj hf)
        subst hS9
        exact rI hx hb hr hP hS he hlocks dX0_conflictEnd_31
      · have hf := (if_neg c7).symm.trans hf
        refine lv_aload_n hx hb dX0_conflictEnd_10 rfl (lv_at hl 0 rfl) ?_
        refine lv_iconst (v := 0) hx hb dX0_conflictEnd_11 (by decide) ?_
        refine lv_iload_n hx hb dX0_conflictEnd_12 rfl (lv_at hl 1 rfl) ?_
        obtain ⟨r8, S10, h9, hf⟩ := ob2_some hf
        refine kVl (As := [.int 0, .int x1]) (rest := []) ⟨hx, hb, hml, hown, hts⟩ (okX0_waysWithin l D cy ad A hD 0 x1 S r8 S10 h9) (cwV 2 hts gX0_conflictEnd_X0_waysWithin rfl rfl rfl (by decide +kernel) ⟨Nat.le_of_ble_eq_true rfl, Nat.le_of_ble_eq_true rfl⟩) hK hP hS (va_recv hK.1 hP (ci := 0) (q := (RX0, TX0, 9)) rfl (atX7 cy ad S)) rfl hl.1 rfl (Nat.le_of_ble_eq_true rfl) dX0_conflictEnd_13 (fun H locs hP hS => ?_)
        refine lv_lconst (v := 0) hx hb dX0_conflictEnd_16 (by decide) ?_
        refine W.lcmp hx hb dX0_conflictEnd_17 ?_
        refine lv_if_ne (tgt := 23) hx hb dX0_conflictEnd_18 (by decide) (fun c11 => ?_) (fun c11 => ?_)
        · have hf := (if_neg c11).symm.trans hf
          refine lv_iinc (v := (x1 + 1)) (lv' := [(1, .int (x1 + 1)), (0, .ref (ad 7))]) hx hb dX0_conflictEnd_23 hl (k := 1) rfl rfl (by decide) rfl (fun ls hl => ?_)
          refine lv_goto (tgt := 2) hx hb dX0_conflictEnd_26 (by decide) ?_
          exact ih2 ((x1 + 1)) S10 H locs ls hP hS (lv_sub hl [1, 0] rfl) hf
        · have hf := (if_pos c11).symm.trans hf
          refine lv_iload_n hx hb dX0_conflictEnd_21 rfl (lv_at hl 1 rfl) ?_
          obtain ⟨he, hS9⟩ := Prod.mk.inj (Option.some.inj hf)
          subst hS9
          exact rI hx hb hr hP hS he hlocks dX0_conflictEnd_22
  unfold fX0_conflictEnd at hf
  suffices hG : ∀ (H : Heap) (locs : List Loc), va_P D vwCl (wX cy ad S) H → va_S A s.heap H locs → W p l e (headSpec wsX0_conflictEnd { frames := 5, cells := 0, slots := 0, locals := 121 }).room s m args below meth c H locs 0 0 (MQ below (QcI D A r (wX cy ad S')) args s 0 0 A) (F0 m 0 ls []) by exact hG s.heap [] hP va_S.rf
  clear hP hS
  intro H locs hP hS
  refine lv_iconst (v := 0) hx hb dX0_conflictEnd_0 (by decide) ?_
  refine lv_istore_n (lv' := [(1, .int 0), (0, .ref (ad 7))]) hx hb dX0_conflictEnd_1 rfl hl (by decide) rfl (fun ls hl => ?_)
  exact K2  FU (0) S H locs ls hP hS (lv_sub hl [1, 0] rfl) hf

def bX0_conflictBeginning_2  (k2 : Int32 × Int32 × XS → Option (Int32 × XS)) (x1 : Int32) (x2 : Int32) (S : XS) : Option (Int32 × XS) := (if x2 < 0 then (some ((-9), S)) else (ob2 (fX0_waysWithin x2 x1 S) (fun r4 S6 => (if (lg_cmp r4 0) = 0 then (some (x2, S6)) else (k2 (x1, (x2 + (-1)), S6))))))
def fX0_conflictBeginning (p0 : Int32) (S : XS) : Option (Int32 × XS) := (lp (fun k q => bX0_conflictBeginning_2  k q.1 q.2.1 q.2.2) FU (p0, p0, S))
set_option maxHeartbeats 4000000 in
set_option maxRecDepth 100000 in
theorem okX0_conflictBeginning (l : Launch) (D : va_G) (cy : Nat → ClassId) (ad : Nat → Nat) (A : Nat → Prop) (hD : ∀ S, va_D A (wX cy ad S)) (p0 : Int32) (S : XS) (r : Int32) (S' : XS) (hf : fX0_conflictBeginning p0 S = some (r, S')) : MI l yX0_conflictBeginning wsX0_conflictBeginning { frames := 5, cells := 0, slots := 0, locals := 121 } D cy A (wX cy ad S) [.ref (ad 7), .int p0] r (wX cy ad S') := by
  refine Met.ofW (cc := cX0_conflictBeginning) (maxL := 3) (ret := (some .int)) (by decide) rfl ?_
  intro p e s m args below meth c s₁ B hml hv
  obtain ⟨ha, hP, hK⟩ := hv
  have hx := B.exec
  have hb := B.bytes
  have hr := B.returns
  have hts := atoms_spec (ws := wsX0_conflictBeginning) B.pre
  have hown : s.vm.findClass RX0 = some m.cls := findClass_of_methodNamed B.named
  have hlocks := B.notSynchronized
  have hS : va_S A s.heap s.heap [] := va_S.rf
  obtain ⟨ls, hl, he0⟩ := ent (m := m) ha (n := 3) (Nat.le_of_ble_eq_true rfl)
  refine W.eq he0 ?_
  have hl : lv_has ls 3 [(0, .ref (ad 7)), (1, .int p0)] := hl
  have K2 : ∀ (n : Nat), ∀ (x1 : Int32) (x2 : Int32) (S : XS) (H : Heap) (locs : List Loc) (ls : Array Slot), va_P D vwCl (wX cy ad S) H → va_S A s.heap H locs → lv_has ls 3 [(0, .ref (ad 7)), (1, .int x1), (2, .int x2)] → lp (fun k q => bX0_conflictBeginning_2  k q.1 q.2.1 q.2.2) n (x1, x2, S) = some (r, S') → W p l e (headSpec wsX0_conflictBeginning { frames := 5, cells := 0, slots := 0, locals := 121 }).room s m args below meth c H locs 0 0 (MQ below (QcI D A r (wX cy ad S')) args s 0 0 A) (F0 m 2 ls []) := by
    intro  n
    induction n with
    | zero =>
      intro x1 x2 S H locs ls hP hS hl hf
      cases hf
    | succ n ih2 =>
      intro x1 x2 S H locs ls hP hS hl hf
      have hf : bX0_conflictBeginning_2  (lp (fun k q => bX0_conflictBeginning_2  k q.1 q.2.1 q.2.2) n) x1 x2 S = some (r, S') := hf
      generalize lp (fun k q => bX0_conflictBeginning_2  k q.1 q.2.1 q.2.2) n = k2 at hf ih2
      unfold bX0_conflictBeginning_2 at hf
      refine lv_iload_n hx hb dX0_conflictBeginning_2 rfl (lv_at hl 2 rfl) ?_
      refine lv_if_lt (tgt := 25) hx hb dX0_conflictBeginning_3 (by decide) (fun c3 => ?_) (fun c3 => ?_)
      · have hf := (if_pos c3).symm.trans hf
        refine lv_bipush (v := (-9)) hx hb dX0_conflictBeginning_25 (by decide) ?_
        obtain ⟨he, hS9⟩ := Prod.mk.inj (Option.some.inj hf)
        subst hS9
        exact rI hx hb hr hP hS he hlocks dX0_conflictBeginning_27
      · have hf := (if_neg c3).symm.trans hf
        refine lv_aload_n hx hb dX0_conflictBeginning_6 rfl (lv_at hl 0 rfl) ?_
        refine lv_iload_n hx hb dX0_conflictBeginning_7 rfl (lv_at hl 2 rfl) ?_
        refine lv_iload_n hx hb dX0_conflictBeginning_8 rfl (lv_at hl 1 rfl) ?_
        obtain ⟨r4, S6, h5, hf⟩ := ob2_some hf
        refine kVl (As := [.int x2, .int x1]) (rest := []) ⟨hx, hb, hml, hown, hts⟩ (okX0_waysWithin l D cy ad A hD x2 x1 S r4 S6 h5) (cwV 2 hts gX0_conflictBeginning_X0_waysWithin rfl rfl rfl (by decide +kernel) ⟨Nat.le_of_ble_eq_true rfl, Nat.le_of_ble_eq_true rfl⟩) hK hP hS (va_recv hK.1 hP (ci := 0) (q := (RX0, TX0, 9)) rfl (atX7 cy ad S)) rfl hl.1 rfl (Nat.le_of_ble_eq_true rfl) dX0_conflictBeginning_9 (fun H locs hP hS => ?_)
        refine lv_lconst (v := 0) hx hb dX0_conflictBeginning_12 (by decide) ?_
        refine W.lcmp hx hb dX0_conflictBeginning_13 ?_
        refine lv_if_ne (tgt := 19) hx hb dX0_conflictBeginning_14 (by decide) (fun c7 => ?_) (fun c7 => ?_)
        · have hf := (if_neg c7).symm.trans hf
          refine lv_iinc (v := (x2 + (-1))) (lv' := [(2, .int (x2 + (-1))), (0, .ref (ad 7)), (1, .int x1)]) hx hb dX0_conflictBeginning_19 hl (k := 2) rfl rfl (by decide) rfl (fun ls hl => ?_)
          refine lv_goto (tgt := 2) hx hb dX0_conflictBeginning_22 (by decide) ?_
          exact ih2 (x1) ((x2 + (-1))) S6 H locs ls hP hS (lv_sub hl [1, 2, 0] rfl) hf
        · have hf := (if_pos c7).symm.trans hf
          refine lv_iload_n hx hb dX0_conflictBeginning_17 rfl (lv_at hl 2 rfl) ?_
          obtain ⟨he, hS9⟩ := Prod.mk.inj (Option.some.inj hf)
          subst hS9
          exact rI hx hb hr hP hS he hlocks dX0_conflictBeginning_18
  unfold fX0_conflictBeginning at hf
  suffices hG : ∀ (H : Heap) (locs : List Loc), va_P D vwCl (wX cy ad S) H → va_S A s.heap H locs → W p l e (headSpec wsX0_conflictBeginning { frames := 5, cells := 0, slots := 0, locals := 121 }).room s m args below meth c H locs 0 0 (MQ below (QcI D A r (wX cy ad S')) args s 0 0 A) (F0 m 0 ls []) by exact hG s.heap [] hP va_S.rf
  clear hP hS
  intro H locs hP hS
  refine lv_iload_n hx hb dX0_conflictBeginning_0 rfl (lv_at hl 1 rfl) ?_
  refine lv_istore_n (lv' := [(2, .int p0), (0, .ref (ad 7)), (1, .int p0)]) hx hb dX0_conflictBeginning_1 rfl hl (by decide) rfl (fun ls hl => ?_)
  exact K2  FU (p0) (p0) S H locs ls hP hS (lv_sub hl [1, 2, 0] rfl) hf

def bX5_conflict_12  (x1 : Int32) (S : XS) : Option (Int32 × XS) := (ob1 (fX5_fillChain  S) (fun S8 => (ob2 (fX0_conflictEnd  S8) (fun r9 S11 => (if r9 = (-9) then (some (r9, S11)) else (if x1 = 1 then (some (r9, S11)) else (ob2 (fX0_conflictBeginning r9 S11) (fun r14 S16 => (some (r14, S16))))))))))
def fX5_conflict (p0 : Int32) (S : XS) : Option (Int32 × XS) := (if p0 = 0 then (bX5_conflict_12  (p0) S) else (if p0 = 1 then (bX5_conflict_12  (p0) S) else (some ((-2), S))))
set_option maxHeartbeats 4000000 in
set_option maxRecDepth 100000 in
theorem okX5_conflict (l : Launch) (D : va_G) (cy : Nat → ClassId) (ad : Nat → Nat) (A : Nat → Prop) (hD : ∀ S, va_D A (wX cy ad S)) (p0 : Int32) (S : XS) (r : Int32) (S' : XS) (hf : fX5_conflict p0 S = some (r, S')) : MI l yX5_conflict wsX5_conflict { frames := 6, cells := 0, slots := 0, locals := 143 } D cy A (wX cy ad S) [.ref (ad 0), .int p0] r (wX cy ad S') := by
  refine Met.ofW (cc := cX5_conflict) (maxL := 3) (ret := (some .int)) (by decide) rfl ?_
  intro p e s m args below meth c s₁ B hml hv
  obtain ⟨ha, hP, hK⟩ := hv
  have hx := B.exec
  have hb := B.bytes
  have hr := B.returns
  have hts := atoms_spec (ws := wsX5_conflict) B.pre
  have hown : s.vm.findClass RX5 = some m.cls := findClass_of_methodNamed B.named
  have hlocks := B.notSynchronized
  have hS : va_S A s.heap s.heap [] := va_S.rf
  obtain ⟨ls, hl, he0⟩ := ent (m := m) ha (n := 3) (Nat.le_of_ble_eq_true rfl)
  refine W.eq he0 ?_
  have hl : lv_has ls 3 [(0, .ref (ad 0)), (1, .int p0)] := hl
  have K12 : ∀ (x1 : Int32) (S : XS) (H : Heap) (locs : List Loc) (ls : Array Slot), va_P D vwCl (wX cy ad S) H → va_S A s.heap H locs → lv_has ls 3 [(0, .ref (ad 0)), (1, .int x1)] → bX5_conflict_12  x1 S = some (r, S') → W p l e (headSpec wsX5_conflict { frames := 6, cells := 0, slots := 0, locals := 143 }).room s m args below meth c H locs 0 0 (MQ below (QcI D A r (wX cy ad S')) args s 0 0 A) (F0 m 12 ls []) := by
    intro  x1 S H locs ls hP hS hl hf
    unfold bX5_conflict_12 at hf
    refine lv_aload_n hx hb dX5_conflict_12 rfl (lv_at hl 0 rfl) ?_
    obtain ⟨S8, h7, hf⟩ := ob1_some hf
    refine kVv (As := []) (rest := []) ⟨hx, hb, hml, hown, hts⟩ (okX5_fillChain l D cy ad A hD  S S8 h7) (cwV 0 hts gX5_conflict_X5_fillChain rfl rfl rfl (by decide +kernel) ⟨Nat.le_of_ble_eq_true rfl, Nat.le_of_ble_eq_true rfl⟩) hK hP hS (va_recv hK.1 hP (ci := 5) (q := (RX5, TX5, 9)) rfl (atX0 cy ad S)) rfl hl.1 rfl (Nat.le_of_ble_eq_true rfl) dX5_conflict_13 (fun H locs hP hS => ?_)
    refine lv_aload_n hx hb dX5_conflict_16 rfl (lv_at hl 0 rfl) ?_
    refine gfX5_3 hx hb hts (fun _ h => List.mem_cons_of_mem _ (List.mem_append_left _ (List.mem_append_left _ (List.mem_append_left _ (List.mem_append_left _ (List.mem_append_right _ h)))))) hown hK hP (hts (Cond.fieldLink RX5 33 "WhoSpeaks" "chain" "LWhoSpeaks$Chain;") (List.mem_of_getElem? (i := 1) rfl)) dX5_conflict_17 ?_
    obtain ⟨r9, S11, h10, hf⟩ := ob2_some hf
    refine kVi (As := []) (rest := []) ⟨hx, hb, hml, hown, hts⟩ (okX0_conflictEnd l D cy ad A hD  S8 r9 S11 h10) (cwV 0 hts gX5_conflict_X0_conflictEnd rfl rfl rfl (by decide +kernel) ⟨Nat.le_of_ble_eq_true rfl, Nat.le_of_ble_eq_true rfl⟩) hK hP hS (va_recv hK.1 hP (ci := 0) (q := (RX0, TX0, 9)) rfl (atX7 cy ad S8)) rfl hl.1 rfl (Nat.le_of_ble_eq_true rfl) dX5_conflict_20 (fun H locs hP hS => ?_)
    refine lv_istore_n (lv' := [(2, .int r9), (0, .ref (ad 0)), (1, .int x1)]) hx hb dX5_conflict_23 rfl hl (by decide) rfl (fun ls hl => ?_)
    refine lv_iload_n hx hb dX5_conflict_24 rfl (lv_at hl 0 rfl) ?_
    refine lv_bipush (v := (-9)) hx hb dX5_conflict_25 (by decide) ?_
    refine lv_icmp_eq (tgt := 35) hx hb dX5_conflict_27 (by decide) (fun c12 => ?_) (fun c12 => ?_)
    · have hf := (if_pos c12).symm.trans hf
      refine lv_iload_n hx hb dX5_conflict_35 rfl (lv_at hl 0 rfl) ?_
      obtain ⟨he, hS9⟩ := Prod.mk.inj (Option.some.inj hf)
      subst hS9
      exact rI hx hb hr hP hS he hlocks dX5_conflict_36
    · have hf := (if_neg c12).symm.trans hf
      refine lv_iload_n hx hb dX5_conflict_30 rfl (lv_at hl 2 rfl) ?_
      refine lv_iconst (v := 1) hx hb dX5_conflict_31 (by decide) ?_
      refine lv_icmp_ne (tgt := 37) hx hb dX5_conflict_32 (by decide) (fun c13 => ?_) (fun c13 => ?_)
      · have hf := (if_neg c13).symm.trans hf
        refine lv_aload_n hx hb dX5_conflict_37 rfl (lv_at hl 1 rfl) ?_
        refine gfX5_3 hx hb hts (fun _ h => List.mem_cons_of_mem _ (List.mem_append_left _ (List.mem_append_left _ (List.mem_append_left _ (List.mem_append_left _ (List.mem_append_right _ h)))))) hown hK hP (hts (Cond.fieldLink RX5 33 "WhoSpeaks" "chain" "LWhoSpeaks$Chain;") (List.mem_of_getElem? (i := 1) rfl)) dX5_conflict_38 ?_
        refine lv_iload_n hx hb dX5_conflict_41 rfl (lv_at hl 0 rfl) ?_
        obtain ⟨r14, S16, h15, hf⟩ := ob2_some hf
        refine kVi (As := [.int r9]) (rest := []) ⟨hx, hb, hml, hown, hts⟩ (okX0_conflictBeginning l D cy ad A hD r9 S11 r14 S16 h15) (cwV 1 hts gX5_conflict_X0_conflictBeginning rfl rfl rfl (by decide +kernel) ⟨Nat.le_of_ble_eq_true rfl, Nat.le_of_ble_eq_true rfl⟩) hK hP hS (va_recv hK.1 hP (ci := 0) (q := (RX0, TX0, 9)) rfl (atX7 cy ad S11)) rfl hl.1 rfl (Nat.le_of_ble_eq_true rfl) dX5_conflict_42 (fun H locs hP hS => ?_)
        obtain ⟨he, hS9⟩ := Prod.mk.inj (Option.some.inj hf)
        subst hS9
        exact rI hx hb hr hP hS he hlocks dX5_conflict_45
      · have hf := (if_pos c13).symm.trans hf
        refine lv_iload_n hx hb dX5_conflict_35 rfl (lv_at hl 0 rfl) ?_
        obtain ⟨he, hS9⟩ := Prod.mk.inj (Option.some.inj hf)
        subst hS9
        exact rI hx hb hr hP hS he hlocks dX5_conflict_36
  unfold fX5_conflict at hf
  suffices hG : ∀ (H : Heap) (locs : List Loc), va_P D vwCl (wX cy ad S) H → va_S A s.heap H locs → W p l e (headSpec wsX5_conflict { frames := 6, cells := 0, slots := 0, locals := 143 }).room s m args below meth c H locs 0 0 (MQ below (QcI D A r (wX cy ad S')) args s 0 0 A) (F0 m 0 ls []) by exact hG s.heap [] hP va_S.rf
  clear hP hS
  intro H locs hP hS
  refine lv_iload_n hx hb dX5_conflict_0 rfl (lv_at hl 1 rfl) ?_
  refine lv_if_eq (tgt := 12) hx hb dX5_conflict_1 (by decide) (fun c17 => ?_) (fun c17 => ?_)
  · have hf := (if_pos c17).symm.trans hf
    exact K12  (p0) S H locs ls hP hS (lv_sub hl [0, 1] rfl) hf
  · have hf := (if_neg c17).symm.trans hf
    refine lv_iload_n hx hb dX5_conflict_4 rfl (lv_at hl 1 rfl) ?_
    refine lv_iconst (v := 1) hx hb dX5_conflict_5 (by decide) ?_
    refine lv_icmp_eq (tgt := 12) hx hb dX5_conflict_6 (by decide) (fun c18 => ?_) (fun c18 => ?_)
    · have hf := (if_pos c18).symm.trans hf
      exact K12  (p0) S H locs ls hP hS (lv_sub hl [0, 1] rfl) hf
    · have hf := (if_neg c18).symm.trans hf
      refine lv_bipush (v := (-2)) hx hb dX5_conflict_9 (by decide) ?_
      obtain ⟨he, hS9⟩ := Prod.mk.inj (Option.some.inj hf)
      subst hS9
      exact rI hx hb hr hP hS he hlocks dX5_conflict_11

def bX0_mostWaysLeft_5  (k5 : Int32 × Int64 × Int32 × XS → Option Int64) (x1 : Int32) (x2 : Int64) (x4 : Int32) (S : XS) : Option Int64 := (if 8 ≤ x4 then (some x2) else (ob1 (fX0_waysThrough x1 x4 S) (fun r8 => (bnd ((if r8 < x2 then x2 else r8)) (fun y10 => (k5 (x1, y10, (x4 + 1), S)))))))
def fX0_mostWaysLeft (p0 : Int32) (S : XS) : Option Int64 := (lp (fun k q => bX0_mostWaysLeft_5  k q.1 q.2.1 q.2.2.1 q.2.2.2) FU (p0, 0, 0, S))
set_option maxHeartbeats 4000000 in
set_option maxRecDepth 100000 in
theorem okX0_mostWaysLeft (l : Launch) (D : va_G) (cy : Nat → ClassId) (ad : Nat → Nat) (A : Nat → Prop) (hD : ∀ S, va_D A (wX cy ad S)) (p0 : Int32) (S : XS) (r : Int64) (hf : fX0_mostWaysLeft p0 S = some r) : ML l yX0_mostWaysLeft wsX0_mostWaysLeft { frames := 3, cells := 0, slots := 0, locals := 66 } D cy A (wX cy ad S) [.ref (ad 7), .int p0] r (wX cy ad S) := by
  refine Met.ofW (cc := cX0_mostWaysLeft) (maxL := 5) (ret := (some .long)) (by decide) rfl ?_
  intro p e s m args below meth c s₁ B hml hv
  obtain ⟨ha, hP, hK⟩ := hv
  have hx := B.exec
  have hb := B.bytes
  have hr := B.returns
  have hts := atoms_spec (ws := wsX0_mostWaysLeft) B.pre
  have hown : s.vm.findClass RX0 = some m.cls := findClass_of_methodNamed B.named
  have hlocks := B.notSynchronized
  have hS : va_S A s.heap s.heap [] := va_S.rf
  obtain ⟨ls, hl, he0⟩ := ent (m := m) ha (n := 5) (Nat.le_of_ble_eq_true rfl)
  refine W.eq he0 ?_
  have hl : lv_has ls 5 [(0, .ref (ad 7)), (1, .int p0)] := hl
  have K5 : ∀ (n : Nat), ∀ (x1 : Int32) (x2 : Int64) (x4 : Int32) (S : XS) (H : Heap) (locs : List Loc) (ls : Array Slot), va_P D vwCl (wX cy ad S) H → va_S A s.heap H locs → lv_has ls 5 [(0, .ref (ad 7)), (1, .int x1), (2, .long x2), (4, .int x4)] → lp (fun k q => bX0_mostWaysLeft_5  k q.1 q.2.1 q.2.2.1 q.2.2.2) n (x1, x2, x4, S) = some r → W p l e (headSpec wsX0_mostWaysLeft { frames := 3, cells := 0, slots := 0, locals := 66 }).room s m args below meth c H locs 0 0 (MQ below (QcL D A r (wX cy ad S)) args s 0 0 A) (F0 m 5 ls []) := by
    intro  n
    induction n with
    | zero =>
      intro x1 x2 x4 S H locs ls hP hS hl hf
      cases hf
    | succ n ih5 =>
      intro x1 x2 x4 S H locs ls hP hS hl hf
      have hf : bX0_mostWaysLeft_5  (lp (fun k q => bX0_mostWaysLeft_5  k q.1 q.2.1 q.2.2.1 q.2.2.2) n) x1 x2 x4 S = some r := hf
      generalize lp (fun k q => bX0_mostWaysLeft_5  k q.1 q.2.1 q.2.2.1 q.2.2.2) n = k5 at hf ih5
      unfold bX0_mostWaysLeft_5 at hf
      refine lv_iload hx hb dX0_mostWaysLeft_5 (lv_at hl 3 rfl) ?_
      refine lv_bipush (v := 8) hx hb dX0_mostWaysLeft_7 (by decide) ?_
      refine lv_icmp_ge (tgt := 30) hx hb dX0_mostWaysLeft_9 (by decide) (fun c7 => ?_) (fun c7 => ?_)
      · have hf := (if_pos c7).symm.trans hf
        refine lv_lload_n hx hb dX0_mostWaysLeft_30 rfl (lv_at hl 2 rfl) ?_
        have he := Option.some.inj hf
        exact rL hx hb hr hP hS he hlocks dX0_mostWaysLeft_31
      · have hf := (if_neg c7).symm.trans hf
        refine lv_lload_n hx hb dX0_mostWaysLeft_12 rfl (lv_at hl 2 rfl) ?_
        refine lv_aload_n hx hb dX0_mostWaysLeft_13 rfl (lv_at hl 0 rfl) ?_
        refine lv_iload_n hx hb dX0_mostWaysLeft_14 rfl (lv_at hl 1 rfl) ?_
        refine lv_iload hx hb dX0_mostWaysLeft_15 (lv_at hl 3 rfl) ?_
        obtain ⟨r8, h9, hf⟩ := ob1_some hf
        refine kVl (As := [.int x1, .int x4]) (rest := [.long x2]) ⟨hx, hb, hml, hown, hts⟩ (okX0_waysThrough l D cy ad A hD x1 x4 S r8 h9) (cwV 2 hts gX0_mostWaysLeft_X0_waysThrough rfl rfl rfl (by decide +kernel) ⟨Nat.le_of_ble_eq_true rfl, Nat.le_of_ble_eq_true rfl⟩) hK hP hS (va_recv hK.1 hP (ci := 0) (q := (RX0, TX0, 9)) rfl (atX7 cy ad S)) rfl hl.1 rfl (Nat.le_of_ble_eq_true rfl) dX0_mostWaysLeft_17 (fun H locs hP hS => ?_)
        refine va_mmax_long hx hb (by rw [hml]; exact hl.1.symm) hown (hts (Cond.methodLink RX0 98 Lib.MathLoose.max_long.x) (List.mem_of_getElem? (i := 1) rfl)) (hts (Cond.static Lib.MathLoose.max_long.x) (List.mem_of_getElem? (i := 2) rfl)) (hts (Cond.initialized "java/lang/Math") (List.mem_of_getElem? (i := 3) rfl)) (hts (Cond.code Lib.MathLoose.max_long.x Lib.MathLoose.max_long.code 4 (some .long)) (List.mem_of_getElem? (i := 4) rfl)) (Nat.le_of_ble_eq_true rfl) (Nat.le_of_ble_eq_true rfl) (Nat.zero_le _) (Nat.zero_le _) dX0_mostWaysLeft_20 ?_
        refine lv_topl (fun y10 ey10 => ?_)
        have hf := bnd_of ey10 hf
        refine lv_lstore_n (lv' := [(2, .long y10), (0, .ref (ad 7)), (1, .int x1), (4, .int x4)]) hx hb dX0_mostWaysLeft_23 rfl hl (by decide) rfl (fun ls hl => ?_)
        refine lv_iinc (v := (x4 + 1)) (lv' := [(4, .int (x4 + 1)), (2, .long y10), (0, .ref (ad 7)), (1, .int x1)]) hx hb dX0_mostWaysLeft_24 hl (k := 3) rfl rfl (by decide) rfl (fun ls hl => ?_)
        refine lv_goto (tgt := 5) hx hb dX0_mostWaysLeft_27 (by decide) ?_
        exact ih5 (x1) (y10) ((x4 + 1)) S H locs ls hP hS (lv_sub hl [2, 3, 1, 0] rfl) hf
  unfold fX0_mostWaysLeft at hf
  suffices hG : ∀ (H : Heap) (locs : List Loc), va_P D vwCl (wX cy ad S) H → va_S A s.heap H locs → W p l e (headSpec wsX0_mostWaysLeft { frames := 3, cells := 0, slots := 0, locals := 66 }).room s m args below meth c H locs 0 0 (MQ below (QcL D A r (wX cy ad S)) args s 0 0 A) (F0 m 0 ls []) by exact hG s.heap [] hP va_S.rf
  clear hP hS
  intro H locs hP hS
  refine lv_lconst (v := 0) hx hb dX0_mostWaysLeft_0 (by decide) ?_
  refine lv_lstore_n (lv' := [(2, .long 0), (0, .ref (ad 7)), (1, .int p0)]) hx hb dX0_mostWaysLeft_1 rfl hl (by decide) rfl (fun ls hl => ?_)
  refine lv_iconst (v := 0) hx hb dX0_mostWaysLeft_2 (by decide) ?_
  refine lv_istore (lv' := [(4, .int 0), (2, .long 0), (0, .ref (ad 7)), (1, .int p0)]) hx hb dX0_mostWaysLeft_3 hl (by decide) rfl (fun ls hl => ?_)
  exact K5  FU (p0) (0) (0) S H locs ls hP hS (lv_sub hl [2, 3, 1, 0] rfl) hf

def bX5_asked_20  (k20 : Int32 × Int64 × Int32 × XS → Option (Int32 × XS)) (x1 : Int32) (x2 : Int64) (x4 : Int32) (S : XS) : Option (Int32 × XS) := (if (fX3_length  S) ≤ x4 then (some (x1, S)) else (ob1 (fX0_sureSet x4 S) (fun r15 => (if (fJ6_bitCount_0f7a4 r15) < 2 then (k20 (x1, x2, (x4 + 1), S)) else (ob1 (fX0_mostWaysLeft x4 S) (fun r19 => (if x1 = (-9) then (k20 (x4, r19, (x4 + 1), S)) else (if 0 ≤ (lg_cmp r19 x2) then (k20 (x1, x2, (x4 + 1), S)) else (k20 (x4, r19, (x4 + 1), S))))))))))
def fX5_asked  (S : XS) : Option (Int32 × XS) := (ob1 (fX5_fillChain  S) (fun S24 => (ob2 (fX0_countWays  S24) (fun r25 S27 => (lp (fun k q => bX5_asked_20  k q.1 q.2.1 q.2.2.1 q.2.2.2) FU ((-9), 0, 0, S27))))))
set_option maxHeartbeats 4000000 in
set_option maxRecDepth 100000 in
theorem okX5_asked (l : Launch) (D : va_G) (cy : Nat → ClassId) (ad : Nat → Nat) (A : Nat → Prop) (hD : ∀ S, va_D A (wX cy ad S))  (S : XS) (r : Int32) (S' : XS) (hf : fX5_asked  S = some (r, S')) : MI l yX5_asked wsX5_asked { frames := 6, cells := 0, slots := 0, locals := 146 } D cy A (wX cy ad S) [.ref (ad 0)] r (wX cy ad S') := by
  refine Met.ofW (cc := cX5_asked) (maxL := 7) (ret := (some .int)) (by decide) rfl ?_
  intro p e s m args below meth c s₁ B hml hv
  obtain ⟨ha, hP, hK⟩ := hv
  have hx := B.exec
  have hb := B.bytes
  have hr := B.returns
  have hts := atoms_spec (ws := wsX5_asked) B.pre
  have hown : s.vm.findClass RX5 = some m.cls := findClass_of_methodNamed B.named
  have hlocks := B.notSynchronized
  have hS : va_S A s.heap s.heap [] := va_S.rf
  obtain ⟨ls, hl, he0⟩ := ent (m := m) ha (n := 7) (Nat.le_of_ble_eq_true rfl)
  refine W.eq he0 ?_
  have hl : lv_has ls 7 [(0, .ref (ad 0))] := hl
  have K20 : ∀ (n : Nat), ∀ (x1 : Int32) (x2 : Int64) (x4 : Int32) (S : XS) (H : Heap) (locs : List Loc) (ls : Array Slot), va_P D vwCl (wX cy ad S) H → va_S A s.heap H locs → lv_has ls 7 [(0, .ref (ad 0)), (1, .int x1), (2, .long x2), (4, .int x4)] → lp (fun k q => bX5_asked_20  k q.1 q.2.1 q.2.2.1 q.2.2.2) n (x1, x2, x4, S) = some (r, S') → W p l e (headSpec wsX5_asked { frames := 6, cells := 0, slots := 0, locals := 146 }).room s m args below meth c H locs 0 0 (MQ below (QcI D A r (wX cy ad S')) args s 0 0 A) (F0 m 20 ls []) := by
    intro  n
    induction n with
    | zero =>
      intro x1 x2 x4 S H locs ls hP hS hl hf
      cases hf
    | succ n ih20 =>
      intro x1 x2 x4 S H locs ls hP hS hl hf
      have hf : bX5_asked_20  (lp (fun k q => bX5_asked_20  k q.1 q.2.1 q.2.2.1 q.2.2.2) n) x1 x2 x4 S = some (r, S') := hf
      generalize lp (fun k q => bX5_asked_20  k q.1 q.2.1 q.2.2.1 q.2.2.2) n = k20 at hf ih20
      unfold bX5_asked_20 at hf
      refine lv_iload hx hb dX5_asked_20 (lv_at hl 3 rfl) ?_
      refine lv_aload_n hx hb dX5_asked_22 rfl (lv_at hl 0 rfl) ?_
      refine gfX5_2 hx hb hts (fun _ h => List.mem_cons_of_mem _ (List.mem_append_left _ (List.mem_append_left _ (List.mem_append_left _ (List.mem_append_left _ (List.mem_append_right _ h)))))) hown hK hP (hts (Cond.fieldLink RX5 26 "WhoSpeaks" "story" "LWhoSpeaks$Story;") (List.mem_of_getElem? (i := 2) rfl)) dX5_asked_23 ?_
      refine kVi (As := []) (rest := [.int x4]) ⟨hx, hb, hml, hown, hts⟩ (okX3_length l D cy ad A hD  S _ rfl) (cwV 0 hts gX5_asked_X3_length rfl rfl rfl (by decide +kernel) ⟨Nat.le_of_ble_eq_true rfl, Nat.le_of_ble_eq_true rfl⟩) hK hP hS (va_recv hK.1 hP (ci := 3) (q := (RX3, TX3, 3)) rfl (atX5 cy ad S)) rfl hl.1 rfl (Nat.le_of_ble_eq_true rfl) dX5_asked_26 (fun H locs hP hS => ?_)
      refine lv_icmp_ge (tgt := 84) hx hb dX5_asked_29 (by decide) (fun c14 => ?_) (fun c14 => ?_)
      · have hf := (if_pos c14).symm.trans hf
        refine lv_iload_n hx hb dX5_asked_84 rfl (lv_at hl 1 rfl) ?_
        obtain ⟨he, hS9⟩ := Prod.mk.inj (Option.some.inj hf)
        subst hS9
        exact rI hx hb hr hP hS he hlocks dX5_asked_85
      · have hf := (if_neg c14).symm.trans hf
        refine lv_aload_n hx hb dX5_asked_32 rfl (lv_at hl 0 rfl) ?_
        refine gfX5_3 hx hb hts (fun _ h => List.mem_cons_of_mem _ (List.mem_append_left _ (List.mem_append_left _ (List.mem_append_left _ (List.mem_append_left _ (List.mem_append_right _ h)))))) hown hK hP (hts (Cond.fieldLink RX5 33 "WhoSpeaks" "chain" "LWhoSpeaks$Chain;") (List.mem_of_getElem? (i := 1) rfl)) dX5_asked_33 ?_
        refine lv_iload hx hb dX5_asked_36 (lv_at hl 3 rfl) ?_
        obtain ⟨r15, h16, hf⟩ := ob1_some hf
        refine kVi (As := [.int x4]) (rest := []) ⟨hx, hb, hml, hown, hts⟩ (okX0_sureSet l D cy ad A hD x4 S r15 h16) (cwV 1 hts gX5_asked_X0_sureSet rfl rfl rfl (by decide +kernel) ⟨Nat.le_of_ble_eq_true rfl, Nat.le_of_ble_eq_true rfl⟩) hK hP hS (va_recv hK.1 hP (ci := 0) (q := (RX0, TX0, 9)) rfl (atX7 cy ad S)) rfl hl.1 rfl (Nat.le_of_ble_eq_true rfl) dX5_asked_38 (fun H locs hP hS => ?_)
        refine kSi (As := [.int r15]) (rest := []) ⟨hx, hb, hml, hown, hts⟩ (okJ6_bitCount_0f7a4 l D cy A (wX cy ad S) r15 _ rfl) (va_cwS 1 hts gX5_asked_J6_bitCount_0f7a4 rfl rfl rfl (by decide +kernel) ⟨Nat.le_of_ble_eq_true rfl, Nat.le_of_ble_eq_true rfl⟩) hK hP hS rfl hl.1 rfl (Nat.le_of_ble_eq_true rfl) dX5_asked_41 (fun H locs hP hS => ?_)
        refine lv_iconst (v := 2) hx hb dX5_asked_44 (by decide) ?_
        refine lv_icmp_lt (tgt := 78) hx hb dX5_asked_45 (by decide) (fun c18 => ?_) (fun c18 => ?_)
        · have hf := (if_pos c18).symm.trans hf
          refine lv_iinc (v := (x4 + 1)) (lv' := [(4, .int (x4 + 1)), (0, .ref (ad 0)), (1, .int x1), (2, .long x2)]) hx hb dX5_asked_78 hl (k := 3) rfl rfl (by decide) rfl (fun ls hl => ?_)
          refine lv_goto (tgt := 20) hx hb dX5_asked_81 (by decide) ?_
          exact ih20 (x1) (x2) ((x4 + 1)) S H locs ls hP hS (lv_sub hl [1, 2, 3, 0] rfl) hf
        · have hf := (if_neg c18).symm.trans hf
          refine lv_aload_n hx hb dX5_asked_48 rfl (lv_at hl 0 rfl) ?_
          refine gfX5_3 hx hb hts (fun _ h => List.mem_cons_of_mem _ (List.mem_append_left _ (List.mem_append_left _ (List.mem_append_left _ (List.mem_append_left _ (List.mem_append_right _ h)))))) hown hK hP (hts (Cond.fieldLink RX5 33 "WhoSpeaks" "chain" "LWhoSpeaks$Chain;") (List.mem_of_getElem? (i := 1) rfl)) dX5_asked_49 ?_
          refine lv_iload hx hb dX5_asked_52 (lv_at hl 3 rfl) ?_
          obtain ⟨r19, h20, hf⟩ := ob1_some hf
          refine kVl (As := [.int x4]) (rest := []) ⟨hx, hb, hml, hown, hts⟩ (okX0_mostWaysLeft l D cy ad A hD x4 S r19 h20) (cwV 1 hts gX5_asked_X0_mostWaysLeft rfl rfl rfl (by decide +kernel) ⟨Nat.le_of_ble_eq_true rfl, Nat.le_of_ble_eq_true rfl⟩) hK hP hS (va_recv hK.1 hP (ci := 0) (q := (RX0, TX0, 9)) rfl (atX7 cy ad S)) rfl hl.1 rfl (Nat.le_of_ble_eq_true rfl) dX5_asked_54 (fun H locs hP hS => ?_)
          refine lv_lstore (lv' := [(5, .long r19), (0, .ref (ad 0)), (1, .int x1), (2, .long x2), (4, .int x4)]) hx hb dX5_asked_57 hl (by decide) rfl (fun ls hl => ?_)
          refine lv_iload_n hx hb dX5_asked_59 rfl (lv_at hl 2 rfl) ?_
          refine lv_bipush (v := (-9)) hx hb dX5_asked_60 (by decide) ?_
          refine lv_icmp_eq (tgt := 72) hx hb dX5_asked_62 (by decide) (fun c21 => ?_) (fun c21 => ?_)
          · have hf := (if_pos c21).symm.trans hf
            refine lv_iload hx hb dX5_asked_72 (lv_at hl 4 rfl) ?_
            refine lv_istore_n (lv' := [(1, .int x4), (5, .long r19), (0, .ref (ad 0)), (2, .long x2), (4, .int x4)]) hx hb dX5_asked_74 rfl hl (by decide) rfl (fun ls hl => ?_)
            refine lv_lload hx hb dX5_asked_75 (lv_at hl 1 rfl) ?_
            refine lv_lstore_n (lv' := [(2, .long r19), (1, .int x4), (5, .long r19), (0, .ref (ad 0)), (4, .int x4)]) hx hb dX5_asked_77 rfl hl (by decide) rfl (fun ls hl => ?_)
            refine lv_iinc (v := (x4 + 1)) (lv' := [(4, .int (x4 + 1)), (2, .long r19), (1, .int x4), (5, .long r19), (0, .ref (ad 0))]) hx hb dX5_asked_78 hl (k := 4) rfl rfl (by decide) rfl (fun ls hl => ?_)
            refine lv_goto (tgt := 20) hx hb dX5_asked_81 (by decide) ?_
            exact ih20 (x4) (r19) ((x4 + 1)) S H locs ls hP hS (lv_sub hl [4, 2, 1, 0] rfl) hf
          · have hf := (if_neg c21).symm.trans hf
            refine lv_lload hx hb dX5_asked_65 (lv_at hl 0 rfl) ?_
            refine lv_lload_n hx hb dX5_asked_67 rfl (lv_at hl 3 rfl) ?_
            refine W.lcmp hx hb dX5_asked_68 ?_
            refine lv_if_ge (tgt := 78) hx hb dX5_asked_69 (by decide) (fun c22 => ?_) (fun c22 => ?_)
            · have hf := (if_pos c22).symm.trans hf
              refine lv_iinc (v := (x4 + 1)) (lv' := [(4, .int (x4 + 1)), (5, .long r19), (0, .ref (ad 0)), (1, .int x1), (2, .long x2)]) hx hb dX5_asked_78 hl (k := 4) rfl rfl (by decide) rfl (fun ls hl => ?_)
              refine lv_goto (tgt := 20) hx hb dX5_asked_81 (by decide) ?_
              exact ih20 (x1) (x2) ((x4 + 1)) S H locs ls hP hS (lv_sub hl [2, 3, 4, 0] rfl) hf
            · have hf := (if_neg c22).symm.trans hf
              refine lv_iload hx hb dX5_asked_72 (lv_at hl 4 rfl) ?_
              refine lv_istore_n (lv' := [(1, .int x4), (5, .long r19), (0, .ref (ad 0)), (2, .long x2), (4, .int x4)]) hx hb dX5_asked_74 rfl hl (by decide) rfl (fun ls hl => ?_)
              refine lv_lload hx hb dX5_asked_75 (lv_at hl 1 rfl) ?_
              refine lv_lstore_n (lv' := [(2, .long r19), (1, .int x4), (5, .long r19), (0, .ref (ad 0)), (4, .int x4)]) hx hb dX5_asked_77 rfl hl (by decide) rfl (fun ls hl => ?_)
              refine lv_iinc (v := (x4 + 1)) (lv' := [(4, .int (x4 + 1)), (2, .long r19), (1, .int x4), (5, .long r19), (0, .ref (ad 0))]) hx hb dX5_asked_78 hl (k := 4) rfl rfl (by decide) rfl (fun ls hl => ?_)
              refine lv_goto (tgt := 20) hx hb dX5_asked_81 (by decide) ?_
              exact ih20 (x4) (r19) ((x4 + 1)) S H locs ls hP hS (lv_sub hl [4, 2, 1, 0] rfl) hf
  unfold fX5_asked at hf
  suffices hG : ∀ (H : Heap) (locs : List Loc), va_P D vwCl (wX cy ad S) H → va_S A s.heap H locs → W p l e (headSpec wsX5_asked { frames := 6, cells := 0, slots := 0, locals := 146 }).room s m args below meth c H locs 0 0 (MQ below (QcI D A r (wX cy ad S')) args s 0 0 A) (F0 m 0 ls []) by exact hG s.heap [] hP va_S.rf
  clear hP hS
  intro H locs hP hS
  refine lv_aload_n hx hb dX5_asked_0 rfl (lv_at hl 0 rfl) ?_
  obtain ⟨S24, h23, hf⟩ := ob1_some hf
  refine kVv (As := []) (rest := []) ⟨hx, hb, hml, hown, hts⟩ (okX5_fillChain l D cy ad A hD  S S24 h23) (cwV 0 hts gX5_asked_X5_fillChain rfl rfl rfl (by decide +kernel) ⟨Nat.le_of_ble_eq_true rfl, Nat.le_of_ble_eq_true rfl⟩) hK hP hS (va_recv hK.1 hP (ci := 5) (q := (RX5, TX5, 9)) rfl (atX0 cy ad S)) rfl hl.1 rfl (Nat.le_of_ble_eq_true rfl) dX5_asked_1 (fun H locs hP hS => ?_)
  refine lv_aload_n hx hb dX5_asked_4 rfl (lv_at hl 0 rfl) ?_
  refine gfX5_3 hx hb hts (fun _ h => List.mem_cons_of_mem _ (List.mem_append_left _ (List.mem_append_left _ (List.mem_append_left _ (List.mem_append_left _ (List.mem_append_right _ h)))))) hown hK hP (hts (Cond.fieldLink RX5 33 "WhoSpeaks" "chain" "LWhoSpeaks$Chain;") (List.mem_of_getElem? (i := 1) rfl)) dX5_asked_5 ?_
  obtain ⟨r25, S27, h26, hf⟩ := ob2_some hf
  refine kVl (As := []) (rest := []) ⟨hx, hb, hml, hown, hts⟩ (okX0_countWays l D cy ad A hD  S24 r25 S27 h26) (cwV 0 hts gX5_asked_X0_countWays rfl rfl rfl (by decide +kernel) ⟨Nat.le_of_ble_eq_true rfl, Nat.le_of_ble_eq_true rfl⟩) hK hP hS (va_recv hK.1 hP (ci := 0) (q := (RX0, TX0, 9)) rfl (atX7 cy ad S24)) rfl hl.1 rfl (Nat.le_of_ble_eq_true rfl) dX5_asked_8 (fun H locs hP hS => ?_)
  refine lv_pop2_2 hx hb dX5_asked_11 rfl ?_
  refine lv_bipush (v := (-9)) hx hb dX5_asked_12 (by decide) ?_
  refine lv_istore_n (lv' := [(1, .int (-9)), (0, .ref (ad 0))]) hx hb dX5_asked_14 rfl hl (by decide) rfl (fun ls hl => ?_)
  refine lv_lconst (v := 0) hx hb dX5_asked_15 (by decide) ?_
  refine lv_lstore_n (lv' := [(2, .long 0), (1, .int (-9)), (0, .ref (ad 0))]) hx hb dX5_asked_16 rfl hl (by decide) rfl (fun ls hl => ?_)
  refine lv_iconst (v := 0) hx hb dX5_asked_17 (by decide) ?_
  refine lv_istore (lv' := [(4, .int 0), (2, .long 0), (1, .int (-9)), (0, .ref (ad 0))]) hx hb dX5_asked_18 hl (by decide) rfl (fun ls hl => ?_)
  exact K20  FU ((-9)) (0) (0) S27 H locs ls hP hS (lv_sub hl [3, 2, 1, 0] rfl) hf

def fX3_beginsRun (p0 : Int32) (S : XS) : Option Bool := (ob1 (fX3_speaksAt p0 S) (fun r3 => (if (bi r3) = 0 then (some false) else (ob1 (fX3_speaksAt (p0 - 1) S) (fun r6 => (if (bi r6) = 0 then (some true) else (some false)))))))
set_option maxHeartbeats 4000000 in
set_option maxRecDepth 100000 in
theorem okX3_beginsRun (l : Launch) (D : va_G) (cy : Nat → ClassId) (ad : Nat → Nat) (A : Nat → Prop) (hD : ∀ S, va_D A (wX cy ad S)) (p0 : Int32) (S : XS) (r : Bool) (hf : fX3_beginsRun p0 S = some r) : MI l yX3_beginsRun wsX3_beginsRun { frames := 3, cells := 0, slots := 0, locals := 63 } D cy A (wX cy ad S) [.ref (ad 5), .int p0] (bi r) (wX cy ad S) := by
  refine Met.ofW (cc := cX3_beginsRun) (maxL := 2) (ret := (some .boolean)) (by decide) rfl ?_
  intro p e s m args below meth c s₁ B hml hv
  obtain ⟨ha, hP, hK⟩ := hv
  have hx := B.exec
  have hb := B.bytes
  have hr := B.returns
  have hts := atoms_spec (ws := wsX3_beginsRun) B.pre
  have hown : s.vm.findClass RX3 = some m.cls := findClass_of_methodNamed B.named
  have hlocks := B.notSynchronized
  have hS : va_S A s.heap s.heap [] := va_S.rf
  obtain ⟨ls, hl, he0⟩ := ent (m := m) ha (n := 2) (Nat.le_of_ble_eq_true rfl)
  refine W.eq he0 ?_
  have hl : lv_has ls 2 [(0, .ref (ad 5)), (1, .int p0)] := hl
  unfold fX3_beginsRun at hf
  suffices hG : ∀ (H : Heap) (locs : List Loc), va_P D vwCl (wX cy ad S) H → va_S A s.heap H locs → W p l e (headSpec wsX3_beginsRun { frames := 3, cells := 0, slots := 0, locals := 63 }).room s m args below meth c H locs 0 0 (MQ below (QcI D A (bi r) (wX cy ad S)) args s 0 0 A) (F0 m 0 ls []) by exact hG s.heap [] hP va_S.rf
  clear hP hS
  intro H locs hP hS
  refine lv_aload_n hx hb dX3_beginsRun_0 rfl (lv_at hl 0 rfl) ?_
  refine lv_iload_n hx hb dX3_beginsRun_1 rfl (lv_at hl 1 rfl) ?_
  obtain ⟨r3, h4, hf⟩ := ob1_some hf
  refine kVi (As := [.int p0]) (rest := []) ⟨hx, hb, hml, hown, hts⟩ (okX3_speaksAt l D cy ad A hD p0 S r3 h4) (cwV 1 hts gX3_beginsRun_X3_speaksAt rfl rfl rfl (by decide +kernel) ⟨Nat.le_of_ble_eq_true rfl, Nat.le_of_ble_eq_true rfl⟩) hK hP hS (va_recv hK.1 hP (ci := 3) (q := (RX3, TX3, 3)) rfl (atX5 cy ad S)) rfl hl.1 rfl (Nat.le_of_ble_eq_true rfl) dX3_beginsRun_2 (fun H locs hP hS => ?_)
  refine lv_if_eq (tgt := 22) hx hb dX3_beginsRun_5 (by decide) (fun c5 => ?_) (fun c5 => ?_)
  · have hf := (if_pos c5).symm.trans hf
    refine lv_iconst (v := 0) hx hb dX3_beginsRun_22 (by decide) ?_
    have he := Option.some.inj hf
    exact rZ hx hb hr (bi_nar false) hP hS (congrArg bi he) hlocks dX3_beginsRun_23
  · have hf := (if_neg c5).symm.trans hf
    refine lv_aload_n hx hb dX3_beginsRun_8 rfl (lv_at hl 0 rfl) ?_
    refine lv_iload_n hx hb dX3_beginsRun_9 rfl (lv_at hl 1 rfl) ?_
    refine lv_iconst (v := 1) hx hb dX3_beginsRun_10 (by decide) ?_
    refine lv_isub hx hb dX3_beginsRun_11 ?_
    obtain ⟨r6, h7, hf⟩ := ob1_some hf
    refine kVi (As := [.int (p0 - 1)]) (rest := []) ⟨hx, hb, hml, hown, hts⟩ (okX3_speaksAt l D cy ad A hD (p0 - 1) S r6 h7) (cwV 1 hts gX3_beginsRun_X3_speaksAt rfl rfl rfl (by decide +kernel) ⟨Nat.le_of_ble_eq_true rfl, Nat.le_of_ble_eq_true rfl⟩) hK hP hS (va_recv hK.1 hP (ci := 3) (q := (RX3, TX3, 3)) rfl (atX5 cy ad S)) rfl hl.1 rfl (Nat.le_of_ble_eq_true rfl) dX3_beginsRun_12 (fun H locs hP hS => ?_)
    refine lv_if_ne (tgt := 22) hx hb dX3_beginsRun_15 (by decide) (fun c8 => ?_) (fun c8 => ?_)
    · have hf := (if_neg c8).symm.trans hf
      refine lv_iconst (v := 0) hx hb dX3_beginsRun_22 (by decide) ?_
      have he := Option.some.inj hf
      exact rZ hx hb hr (bi_nar false) hP hS (congrArg bi he) hlocks dX3_beginsRun_23
    · have hf := (if_pos c8).symm.trans hf
      refine lv_iconst (v := 1) hx hb dX3_beginsRun_18 (by decide) ?_
      refine lv_goto (tgt := 23) hx hb dX3_beginsRun_19 (by decide) ?_
      have he := Option.some.inj hf
      exact rZ hx hb hr (bi_nar true) hP hS (congrArg bi he) hlocks dX3_beginsRun_23

def bX3_firstOfRun_4  (k4 : Int32 × Int32 × Int32 × XS → Option Int32) (x1 : Int32) (x2 : Int32) (x3 : Int32) (S : XS) : Option Int32 := (if (xi S 4) ≤ x3 then (some (-9)) else (ob1 (fX3_beginsRun x3 S) (fun r11 => (if (bi r11) = 0 then (k4 (x1, x2, (x3 + 1), S)) else (if x2 = x1 then (some x3) else (k4 (x1, (x2 + 1), (x3 + 1), S)))))))
def fX3_firstOfRun (p0 : Int32) (S : XS) : Option Int32 := (lp (fun k q => bX3_firstOfRun_4  k q.1 q.2.1 q.2.2.1 q.2.2.2) FU (p0, 0, 0, S))
set_option maxHeartbeats 4000000 in
set_option maxRecDepth 100000 in
theorem okX3_firstOfRun (l : Launch) (D : va_G) (cy : Nat → ClassId) (ad : Nat → Nat) (A : Nat → Prop) (hD : ∀ S, va_D A (wX cy ad S)) (p0 : Int32) (S : XS) (r : Int32) (hf : fX3_firstOfRun p0 S = some r) : MI l yX3_firstOfRun wsX3_firstOfRun { frames := 4, cells := 0, slots := 0, locals := 84 } D cy A (wX cy ad S) [.ref (ad 5), .int p0] r (wX cy ad S) := by
  refine Met.ofW (cc := cX3_firstOfRun) (maxL := 4) (ret := (some .int)) (by decide) rfl ?_
  intro p e s m args below meth c s₁ B hml hv
  obtain ⟨ha, hP, hK⟩ := hv
  have hx := B.exec
  have hb := B.bytes
  have hr := B.returns
  have hts := atoms_spec (ws := wsX3_firstOfRun) B.pre
  have hown : s.vm.findClass RX3 = some m.cls := findClass_of_methodNamed B.named
  have hlocks := B.notSynchronized
  have hS : va_S A s.heap s.heap [] := va_S.rf
  obtain ⟨ls, hl, he0⟩ := ent (m := m) ha (n := 4) (Nat.le_of_ble_eq_true rfl)
  refine W.eq he0 ?_
  have hl : lv_has ls 4 [(0, .ref (ad 5)), (1, .int p0)] := hl
  have K4 : ∀ (n : Nat), ∀ (x1 : Int32) (x2 : Int32) (x3 : Int32) (S : XS) (H : Heap) (locs : List Loc) (ls : Array Slot), va_P D vwCl (wX cy ad S) H → va_S A s.heap H locs → lv_has ls 4 [(0, .ref (ad 5)), (1, .int x1), (2, .int x2), (3, .int x3)] → lp (fun k q => bX3_firstOfRun_4  k q.1 q.2.1 q.2.2.1 q.2.2.2) n (x1, x2, x3, S) = some r → W p l e (headSpec wsX3_firstOfRun { frames := 4, cells := 0, slots := 0, locals := 84 }).room s m args below meth c H locs 0 0 (MQ below (QcI D A r (wX cy ad S)) args s 0 0 A) (F0 m 4 ls []) := by
    intro  n
    induction n with
    | zero =>
      intro x1 x2 x3 S H locs ls hP hS hl hf
      cases hf
    | succ n ih4 =>
      intro x1 x2 x3 S H locs ls hP hS hl hf
      have hf : bX3_firstOfRun_4  (lp (fun k q => bX3_firstOfRun_4  k q.1 q.2.1 q.2.2.1 q.2.2.2) n) x1 x2 x3 S = some r := hf
      generalize lp (fun k q => bX3_firstOfRun_4  k q.1 q.2.1 q.2.2.1 q.2.2.2) n = k4 at hf ih4
      unfold bX3_firstOfRun_4 at hf
      refine lv_iload_n hx hb dX3_firstOfRun_4 rfl (lv_at hl 3 rfl) ?_
      refine lv_aload_n hx hb dX3_firstOfRun_5 rfl (lv_at hl 0 rfl) ?_
      refine gfX3_2 hx hb hts (fun _ h => List.mem_cons_of_mem _ (List.mem_append_left _ (List.mem_append_right _ h))) hown hK hP (hts (Cond.fieldLink RX3 22 "WhoSpeaks$Story" "count" "I") (List.mem_of_getElem? (i := 1) rfl)) dX3_firstOfRun_6 ?_
      refine lv_icmp_ge (tgt := 36) hx hb dX3_firstOfRun_9 (by decide) (fun c10 => ?_) (fun c10 => ?_)
      · have hf := (if_pos c10).symm.trans hf
        refine lv_bipush (v := (-9)) hx hb dX3_firstOfRun_36 (by decide) ?_
        have he := Option.some.inj hf
        exact rI hx hb hr hP hS he hlocks dX3_firstOfRun_38
      · have hf := (if_neg c10).symm.trans hf
        refine lv_aload_n hx hb dX3_firstOfRun_12 rfl (lv_at hl 0 rfl) ?_
        refine lv_iload_n hx hb dX3_firstOfRun_13 rfl (lv_at hl 3 rfl) ?_
        obtain ⟨r11, h12, hf⟩ := ob1_some hf
        refine kVi (As := [.int x3]) (rest := []) ⟨hx, hb, hml, hown, hts⟩ (okX3_beginsRun l D cy ad A hD x3 S r11 h12) (cwV 1 hts gX3_firstOfRun_X3_beginsRun rfl rfl rfl (by decide +kernel) ⟨Nat.le_of_ble_eq_true rfl, Nat.le_of_ble_eq_true rfl⟩) hK hP hS (va_recv hK.1 hP (ci := 3) (q := (RX3, TX3, 3)) rfl (atX5 cy ad S)) rfl hl.1 rfl (Nat.le_of_ble_eq_true rfl) dX3_firstOfRun_14 (fun H locs hP hS => ?_)
        refine lv_if_eq (tgt := 30) hx hb dX3_firstOfRun_17 (by decide) (fun c13 => ?_) (fun c13 => ?_)
        · have hf := (if_pos c13).symm.trans hf
          refine lv_iinc (v := (x3 + 1)) (lv' := [(3, .int (x3 + 1)), (0, .ref (ad 5)), (1, .int x1), (2, .int x2)]) hx hb dX3_firstOfRun_30 hl (k := 3) rfl rfl (by decide) rfl (fun ls hl => ?_)
          refine lv_goto (tgt := 4) hx hb dX3_firstOfRun_33 (by decide) ?_
          exact ih4 (x1) (x2) ((x3 + 1)) S H locs ls hP hS (lv_sub hl [1, 2, 3, 0] rfl) hf
        · have hf := (if_neg c13).symm.trans hf
          refine lv_iload_n hx hb dX3_firstOfRun_20 rfl (lv_at hl 2 rfl) ?_
          refine lv_iload_n hx hb dX3_firstOfRun_21 rfl (lv_at hl 1 rfl) ?_
          refine lv_icmp_ne (tgt := 27) hx hb dX3_firstOfRun_22 (by decide) (fun c14 => ?_) (fun c14 => ?_)
          · have hf := (if_neg c14).symm.trans hf
            refine lv_iinc (v := (x2 + 1)) (lv' := [(2, .int (x2 + 1)), (0, .ref (ad 5)), (1, .int x1), (3, .int x3)]) hx hb dX3_firstOfRun_27 hl (k := 2) rfl rfl (by decide) rfl (fun ls hl => ?_)
            refine lv_iinc (v := (x3 + 1)) (lv' := [(3, .int (x3 + 1)), (2, .int (x2 + 1)), (0, .ref (ad 5)), (1, .int x1)]) hx hb dX3_firstOfRun_30 hl (k := 3) rfl rfl (by decide) rfl (fun ls hl => ?_)
            refine lv_goto (tgt := 4) hx hb dX3_firstOfRun_33 (by decide) ?_
            exact ih4 (x1) ((x2 + 1)) ((x3 + 1)) S H locs ls hP hS (lv_sub hl [2, 3, 1, 0] rfl) hf
          · have hf := (if_pos c14).symm.trans hf
            refine lv_iload_n hx hb dX3_firstOfRun_25 rfl (lv_at hl 3 rfl) ?_
            have he := Option.some.inj hf
            exact rI hx hb hr hP hS he hlocks dX3_firstOfRun_26
  unfold fX3_firstOfRun at hf
  suffices hG : ∀ (H : Heap) (locs : List Loc), va_P D vwCl (wX cy ad S) H → va_S A s.heap H locs → W p l e (headSpec wsX3_firstOfRun { frames := 4, cells := 0, slots := 0, locals := 84 }).room s m args below meth c H locs 0 0 (MQ below (QcI D A r (wX cy ad S)) args s 0 0 A) (F0 m 0 ls []) by exact hG s.heap [] hP va_S.rf
  clear hP hS
  intro H locs hP hS
  refine lv_iconst (v := 0) hx hb dX3_firstOfRun_0 (by decide) ?_
  refine lv_istore_n (lv' := [(2, .int 0), (0, .ref (ad 5)), (1, .int p0)]) hx hb dX3_firstOfRun_1 rfl hl (by decide) rfl (fun ls hl => ?_)
  refine lv_iconst (v := 0) hx hb dX3_firstOfRun_2 (by decide) ?_
  refine lv_istore_n (lv' := [(3, .int 0), (2, .int 0), (0, .ref (ad 5)), (1, .int p0)]) hx hb dX3_firstOfRun_3 rfl hl (by decide) rfl (fun ls hl => ?_)
  exact K4  FU (p0) (0) (0) S H locs ls hP hS (lv_sub hl [2, 3, 1, 0] rfl) hf

def bX3_runLength_4  (k4 : Int32 × Int32 × XS → Option Int32) (x2 : Int32) (x3 : Int32) (S : XS) : Option Int32 := (if (xi S 4) ≤ x3 then (some x2) else (ob1 (fX3_speaksAt x3 S) (fun r8 => (if (bi r8) = 0 then (some x2) else (k4 ((x2 + 1), (x3 + 1), S))))))
def fX3_runLength (p0 : Int32) (S : XS) : Option Int32 := (lp (fun k q => bX3_runLength_4  k q.1 q.2.1 q.2.2) FU (0, p0, S))
set_option maxHeartbeats 4000000 in
set_option maxRecDepth 100000 in
theorem okX3_runLength (l : Launch) (D : va_G) (cy : Nat → ClassId) (ad : Nat → Nat) (A : Nat → Prop) (hD : ∀ S, va_D A (wX cy ad S)) (p0 : Int32) (S : XS) (r : Int32) (hf : fX3_runLength p0 S = some r) : MI l yX3_runLength wsX3_runLength { frames := 3, cells := 0, slots := 0, locals := 63 } D cy A (wX cy ad S) [.ref (ad 5), .int p0] r (wX cy ad S) := by
  refine Met.ofW (cc := cX3_runLength) (maxL := 4) (ret := (some .int)) (by decide) rfl ?_
  intro p e s m args below meth c s₁ B hml hv
  obtain ⟨ha, hP, hK⟩ := hv
  have hx := B.exec
  have hb := B.bytes
  have hr := B.returns
  have hts := atoms_spec (ws := wsX3_runLength) B.pre
  have hown : s.vm.findClass RX3 = some m.cls := findClass_of_methodNamed B.named
  have hlocks := B.notSynchronized
  have hS : va_S A s.heap s.heap [] := va_S.rf
  obtain ⟨ls, hl, he0⟩ := ent (m := m) ha (n := 4) (Nat.le_of_ble_eq_true rfl)
  refine W.eq he0 ?_
  have hl : lv_has ls 4 [(0, .ref (ad 5)), (1, .int p0)] := hl
  have K4 : ∀ (n : Nat), ∀ (x2 : Int32) (x3 : Int32) (S : XS) (H : Heap) (locs : List Loc) (ls : Array Slot), va_P D vwCl (wX cy ad S) H → va_S A s.heap H locs → lv_has ls 4 [(0, .ref (ad 5)), (2, .int x2), (3, .int x3)] → lp (fun k q => bX3_runLength_4  k q.1 q.2.1 q.2.2) n (x2, x3, S) = some r → W p l e (headSpec wsX3_runLength { frames := 3, cells := 0, slots := 0, locals := 63 }).room s m args below meth c H locs 0 0 (MQ below (QcI D A r (wX cy ad S)) args s 0 0 A) (F0 m 4 ls []) := by
    intro  n
    induction n with
    | zero =>
      intro x2 x3 S H locs ls hP hS hl hf
      cases hf
    | succ n ih4 =>
      intro x2 x3 S H locs ls hP hS hl hf
      have hf : bX3_runLength_4  (lp (fun k q => bX3_runLength_4  k q.1 q.2.1 q.2.2) n) x2 x3 S = some r := hf
      generalize lp (fun k q => bX3_runLength_4  k q.1 q.2.1 q.2.2) n = k4 at hf ih4
      unfold bX3_runLength_4 at hf
      refine lv_iload_n hx hb dX3_runLength_4 rfl (lv_at hl 2 rfl) ?_
      refine lv_aload_n hx hb dX3_runLength_5 rfl (lv_at hl 0 rfl) ?_
      refine gfX3_2 hx hb hts (fun _ h => List.mem_cons_of_mem _ (List.mem_append_left _ (List.mem_append_right _ h))) hown hK hP (hts (Cond.fieldLink RX3 22 "WhoSpeaks$Story" "count" "I") (List.mem_of_getElem? (i := 1) rfl)) dX3_runLength_6 ?_
      refine lv_icmp_ge (tgt := 29) hx hb dX3_runLength_9 (by decide) (fun c7 => ?_) (fun c7 => ?_)
      · have hf := (if_pos c7).symm.trans hf
        refine lv_iload_n hx hb dX3_runLength_29 rfl (lv_at hl 1 rfl) ?_
        have he := Option.some.inj hf
        exact rI hx hb hr hP hS he hlocks dX3_runLength_30
      · have hf := (if_neg c7).symm.trans hf
        refine lv_aload_n hx hb dX3_runLength_12 rfl (lv_at hl 0 rfl) ?_
        refine lv_iload_n hx hb dX3_runLength_13 rfl (lv_at hl 2 rfl) ?_
        obtain ⟨r8, h9, hf⟩ := ob1_some hf
        refine kVi (As := [.int x3]) (rest := []) ⟨hx, hb, hml, hown, hts⟩ (okX3_speaksAt l D cy ad A hD x3 S r8 h9) (cwV 1 hts gX3_runLength_X3_speaksAt rfl rfl rfl (by decide +kernel) ⟨Nat.le_of_ble_eq_true rfl, Nat.le_of_ble_eq_true rfl⟩) hK hP hS (va_recv hK.1 hP (ci := 3) (q := (RX3, TX3, 3)) rfl (atX5 cy ad S)) rfl hl.1 rfl (Nat.le_of_ble_eq_true rfl) dX3_runLength_14 (fun H locs hP hS => ?_)
        refine lv_if_eq (tgt := 29) hx hb dX3_runLength_17 (by decide) (fun c10 => ?_) (fun c10 => ?_)
        · have hf := (if_pos c10).symm.trans hf
          refine lv_iload_n hx hb dX3_runLength_29 rfl (lv_at hl 1 rfl) ?_
          have he := Option.some.inj hf
          exact rI hx hb hr hP hS he hlocks dX3_runLength_30
        · have hf := (if_neg c10).symm.trans hf
          refine lv_iinc (v := (x2 + 1)) (lv' := [(2, .int (x2 + 1)), (0, .ref (ad 5)), (3, .int x3)]) hx hb dX3_runLength_20 hl (k := 1) rfl rfl (by decide) rfl (fun ls hl => ?_)
          refine lv_iinc (v := (x3 + 1)) (lv' := [(3, .int (x3 + 1)), (2, .int (x2 + 1)), (0, .ref (ad 5))]) hx hb dX3_runLength_23 hl (k := 2) rfl rfl (by decide) rfl (fun ls hl => ?_)
          refine lv_goto (tgt := 4) hx hb dX3_runLength_26 (by decide) ?_
          exact ih4 ((x2 + 1)) ((x3 + 1)) S H locs ls hP hS (lv_sub hl [2, 1, 0] rfl) hf
  unfold fX3_runLength at hf
  suffices hG : ∀ (H : Heap) (locs : List Loc), va_P D vwCl (wX cy ad S) H → va_S A s.heap H locs → W p l e (headSpec wsX3_runLength { frames := 3, cells := 0, slots := 0, locals := 63 }).room s m args below meth c H locs 0 0 (MQ below (QcI D A r (wX cy ad S)) args s 0 0 A) (F0 m 0 ls []) by exact hG s.heap [] hP va_S.rf
  clear hP hS
  intro H locs hP hS
  refine lv_iconst (v := 0) hx hb dX3_runLength_0 (by decide) ?_
  refine lv_istore_n (lv' := [(2, .int 0), (0, .ref (ad 5)), (1, .int p0)]) hx hb dX3_runLength_1 rfl hl (by decide) rfl (fun ls hl => ?_)
  refine lv_iload_n hx hb dX3_runLength_2 rfl (lv_at hl 2 rfl) ?_
  refine lv_istore_n (lv' := [(3, .int p0), (2, .int 0), (0, .ref (ad 5)), (1, .int p0)]) hx hb dX3_runLength_3 rfl hl (by decide) rfl (fun ls hl => ?_)
  exact K4  FU (0) (p0) S H locs ls hP hS (lv_sub hl [2, 1, 0] rfl) hf

def bX0_ownSetsJoined_5  (k5 : Int32 × Int32 × Int32 × Int32 × XS → Option Int32) (x1 : Int32) (x2 : Int32) (x3 : Int32) (x4 : Int32) (S : XS) : Option Int32 := (if x2 ≤ x4 then (some x3) else (ob1 (fX0_ownSet (x1 + x4) S) (fun r8 => (bnd ((x3 ||| r8)) (fun y10 => (k5 (x1, x2, y10, (x4 + 1), S)))))))
def fX0_ownSetsJoined (p0 : Int32) (p1 : Int32) (S : XS) : Option Int32 := (lp (fun k q => bX0_ownSetsJoined_5  k q.1 q.2.1 q.2.2.1 q.2.2.2.1 q.2.2.2.2) FU (p0, p1, 0, 0, S))
set_option maxHeartbeats 4000000 in
set_option maxRecDepth 100000 in
theorem okX0_ownSetsJoined (l : Launch) (D : va_G) (cy : Nat → ClassId) (ad : Nat → Nat) (A : Nat → Prop) (hD : ∀ S, va_D A (wX cy ad S)) (p0 : Int32) (p1 : Int32) (S : XS) (r : Int32) (hf : fX0_ownSetsJoined p0 p1 S = some r) : MI l yX0_ownSetsJoined wsX0_ownSetsJoined { frames := 3, cells := 0, slots := 0, locals := 63 } D cy A (wX cy ad S) [.ref (ad 7), .int p0, .int p1] r (wX cy ad S) := by
  refine Met.ofW (cc := cX0_ownSetsJoined) (maxL := 5) (ret := (some .int)) (by decide) rfl ?_
  intro p e s m args below meth c s₁ B hml hv
  obtain ⟨ha, hP, hK⟩ := hv
  have hx := B.exec
  have hb := B.bytes
  have hr := B.returns
  have hts := atoms_spec (ws := wsX0_ownSetsJoined) B.pre
  have hown : s.vm.findClass RX0 = some m.cls := findClass_of_methodNamed B.named
  have hlocks := B.notSynchronized
  have hS : va_S A s.heap s.heap [] := va_S.rf
  obtain ⟨ls, hl, he0⟩ := ent (m := m) ha (n := 5) (Nat.le_of_ble_eq_true rfl)
  refine W.eq he0 ?_
  have hl : lv_has ls 5 [(0, .ref (ad 7)), (1, .int p0), (2, .int p1)] := hl
  have K5 : ∀ (n : Nat), ∀ (x1 : Int32) (x2 : Int32) (x3 : Int32) (x4 : Int32) (S : XS) (H : Heap) (locs : List Loc) (ls : Array Slot), va_P D vwCl (wX cy ad S) H → va_S A s.heap H locs → lv_has ls 5 [(0, .ref (ad 7)), (1, .int x1), (2, .int x2), (3, .int x3), (4, .int x4)] → lp (fun k q => bX0_ownSetsJoined_5  k q.1 q.2.1 q.2.2.1 q.2.2.2.1 q.2.2.2.2) n (x1, x2, x3, x4, S) = some r → W p l e (headSpec wsX0_ownSetsJoined { frames := 3, cells := 0, slots := 0, locals := 63 }).room s m args below meth c H locs 0 0 (MQ below (QcI D A r (wX cy ad S)) args s 0 0 A) (F0 m 5 ls []) := by
    intro  n
    induction n with
    | zero =>
      intro x1 x2 x3 x4 S H locs ls hP hS hl hf
      cases hf
    | succ n ih5 =>
      intro x1 x2 x3 x4 S H locs ls hP hS hl hf
      have hf : bX0_ownSetsJoined_5  (lp (fun k q => bX0_ownSetsJoined_5  k q.1 q.2.1 q.2.2.1 q.2.2.2.1 q.2.2.2.2) n) x1 x2 x3 x4 S = some r := hf
      generalize lp (fun k q => bX0_ownSetsJoined_5  k q.1 q.2.1 q.2.2.1 q.2.2.2.1 q.2.2.2.2) n = k5 at hf ih5
      unfold bX0_ownSetsJoined_5 at hf
      refine lv_iload hx hb dX0_ownSetsJoined_5 (lv_at hl 4 rfl) ?_
      refine lv_iload_n hx hb dX0_ownSetsJoined_7 rfl (lv_at hl 2 rfl) ?_
      refine lv_icmp_ge (tgt := 28) hx hb dX0_ownSetsJoined_8 (by decide) (fun c7 => ?_) (fun c7 => ?_)
      · have hf := (if_pos c7).symm.trans hf
        refine lv_iload_n hx hb dX0_ownSetsJoined_28 rfl (lv_at hl 3 rfl) ?_
        have he := Option.some.inj hf
        exact rI hx hb hr hP hS he hlocks dX0_ownSetsJoined_29
      · have hf := (if_neg c7).symm.trans hf
        refine lv_iload_n hx hb dX0_ownSetsJoined_11 rfl (lv_at hl 3 rfl) ?_
        refine lv_aload_n hx hb dX0_ownSetsJoined_12 rfl (lv_at hl 0 rfl) ?_
        refine lv_iload_n hx hb dX0_ownSetsJoined_13 rfl (lv_at hl 1 rfl) ?_
        refine lv_iload hx hb dX0_ownSetsJoined_14 (lv_at hl 4 rfl) ?_
        refine lv_iadd hx hb dX0_ownSetsJoined_16 ?_
        obtain ⟨r8, h9, hf⟩ := ob1_some hf
        refine kVi (As := [.int (x1 + x4)]) (rest := [.int x3]) ⟨hx, hb, hml, hown, hts⟩ (okX0_ownSet l D cy ad A hD (x1 + x4) S r8 h9) (cwV 1 hts gX0_ownSetsJoined_X0_ownSet rfl rfl rfl (by decide +kernel) ⟨Nat.le_of_ble_eq_true rfl, Nat.le_of_ble_eq_true rfl⟩) hK hP hS (va_recv hK.1 hP (ci := 0) (q := (RX0, TX0, 9)) rfl (atX7 cy ad S)) rfl hl.1 rfl (Nat.le_of_ble_eq_true rfl) dX0_ownSetsJoined_17 (fun H locs hP hS => ?_)
        refine lv_ior hx hb dX0_ownSetsJoined_20 ?_
        refine lv_topi (fun y10 ey10 => ?_)
        have hf := bnd_of ey10 hf
        refine lv_istore_n (lv' := [(3, .int y10), (0, .ref (ad 7)), (1, .int x1), (2, .int x2), (4, .int x4)]) hx hb dX0_ownSetsJoined_21 rfl hl (by decide) rfl (fun ls hl => ?_)
        refine lv_iinc (v := (x4 + 1)) (lv' := [(4, .int (x4 + 1)), (3, .int y10), (0, .ref (ad 7)), (1, .int x1), (2, .int x2)]) hx hb dX0_ownSetsJoined_22 hl (k := 4) rfl rfl (by decide) rfl (fun ls hl => ?_)
        refine lv_goto (tgt := 5) hx hb dX0_ownSetsJoined_25 (by decide) ?_
        exact ih5 (x1) (x2) (y10) ((x4 + 1)) S H locs ls hP hS (lv_sub hl [2, 3, 4, 1, 0] rfl) hf
  unfold fX0_ownSetsJoined at hf
  suffices hG : ∀ (H : Heap) (locs : List Loc), va_P D vwCl (wX cy ad S) H → va_S A s.heap H locs → W p l e (headSpec wsX0_ownSetsJoined { frames := 3, cells := 0, slots := 0, locals := 63 }).room s m args below meth c H locs 0 0 (MQ below (QcI D A r (wX cy ad S)) args s 0 0 A) (F0 m 0 ls []) by exact hG s.heap [] hP va_S.rf
  clear hP hS
  intro H locs hP hS
  refine lv_iconst (v := 0) hx hb dX0_ownSetsJoined_0 (by decide) ?_
  refine lv_istore_n (lv' := [(3, .int 0), (0, .ref (ad 7)), (1, .int p0), (2, .int p1)]) hx hb dX0_ownSetsJoined_1 rfl hl (by decide) rfl (fun ls hl => ?_)
  refine lv_iconst (v := 0) hx hb dX0_ownSetsJoined_2 (by decide) ?_
  refine lv_istore (lv' := [(4, .int 0), (3, .int 0), (0, .ref (ad 7)), (1, .int p0), (2, .int p1)]) hx hb dX0_ownSetsJoined_3 hl (by decide) rfl (fun ls hl => ?_)
  exact K5  FU (p0) (p1) (0) (0) S H locs ls hP hS (lv_sub hl [2, 3, 4, 1, 0] rfl) hf

def fX5_run (p0 : Int32) (p1 : Int32) (S : XS) : Option (Int32 × XS) := (ob1 (fX3_firstOfRun p0 S) (fun r2 => (if r2 = (-9) then (some ((-1), S)) else (ob1 (fX3_runLength r2 S) (fun r5 => (if p1 = 0 then (some (r2, S)) else (if p1 = 1 then (some (r5, S)) else (if p1 = 2 then (ob1 (fX5_fillChain  S) (fun S11 => (ob1 (fX0_ownSetsJoined r2 r5 S11) (fun r12 => (some ((fJ6_bitCount_0f7a4 r12), S11)))))) else (some ((-2), S))))))))))
set_option maxHeartbeats 4000000 in
set_option maxRecDepth 100000 in
theorem okX5_run (l : Launch) (D : va_G) (cy : Nat → ClassId) (ad : Nat → Nat) (A : Nat → Prop) (hD : ∀ S, va_D A (wX cy ad S)) (p0 : Int32) (p1 : Int32) (S : XS) (r : Int32) (S' : XS) (hf : fX5_run p0 p1 S = some (r, S')) : MI l yX5_run wsX5_run { frames := 5, cells := 0, slots := 0, locals := 109 } D cy A (wX cy ad S) [.ref (ad 0), .int p0, .int p1] r (wX cy ad S') := by
  refine Met.ofW (cc := cX5_run) (maxL := 5) (ret := (some .int)) (by decide) rfl ?_
  intro p e s m args below meth c s₁ B hml hv
  obtain ⟨ha, hP, hK⟩ := hv
  have hx := B.exec
  have hb := B.bytes
  have hr := B.returns
  have hts := atoms_spec (ws := wsX5_run) B.pre
  have hown : s.vm.findClass RX5 = some m.cls := findClass_of_methodNamed B.named
  have hlocks := B.notSynchronized
  have hS : va_S A s.heap s.heap [] := va_S.rf
  obtain ⟨ls, hl, he0⟩ := ent (m := m) ha (n := 5) (Nat.le_of_ble_eq_true rfl)
  refine W.eq he0 ?_
  have hl : lv_has ls 5 [(0, .ref (ad 0)), (1, .int p0), (2, .int p1)] := hl
  unfold fX5_run at hf
  suffices hG : ∀ (H : Heap) (locs : List Loc), va_P D vwCl (wX cy ad S) H → va_S A s.heap H locs → W p l e (headSpec wsX5_run { frames := 5, cells := 0, slots := 0, locals := 109 }).room s m args below meth c H locs 0 0 (MQ below (QcI D A r (wX cy ad S')) args s 0 0 A) (F0 m 0 ls []) by exact hG s.heap [] hP va_S.rf
  clear hP hS
  intro H locs hP hS
  refine lv_aload_n hx hb dX5_run_0 rfl (lv_at hl 0 rfl) ?_
  refine gfX5_2 hx hb hts (fun _ h => List.mem_cons_of_mem _ (List.mem_append_left _ (List.mem_append_left _ (List.mem_append_left _ (List.mem_append_left _ (List.mem_append_right _ h)))))) hown hK hP (hts (Cond.fieldLink RX5 26 "WhoSpeaks" "story" "LWhoSpeaks$Story;") (List.mem_of_getElem? (i := 1) rfl)) dX5_run_1 ?_
  refine lv_iload_n hx hb dX5_run_4 rfl (lv_at hl 1 rfl) ?_
  obtain ⟨r2, h3, hf⟩ := ob1_some hf
  refine kVi (As := [.int p0]) (rest := []) ⟨hx, hb, hml, hown, hts⟩ (okX3_firstOfRun l D cy ad A hD p0 S r2 h3) (cwV 1 hts gX5_run_X3_firstOfRun rfl rfl rfl (by decide +kernel) ⟨Nat.le_of_ble_eq_true rfl, Nat.le_of_ble_eq_true rfl⟩) hK hP hS (va_recv hK.1 hP (ci := 3) (q := (RX3, TX3, 3)) rfl (atX5 cy ad S)) rfl hl.1 rfl (Nat.le_of_ble_eq_true rfl) dX5_run_5 (fun H locs hP hS => ?_)
  refine lv_istore_n (lv' := [(3, .int r2), (0, .ref (ad 0)), (1, .int p0), (2, .int p1)]) hx hb dX5_run_8 rfl hl (by decide) rfl (fun ls hl => ?_)
  refine lv_iload_n hx hb dX5_run_9 rfl (lv_at hl 0 rfl) ?_
  refine lv_bipush (v := (-9)) hx hb dX5_run_10 (by decide) ?_
  refine lv_icmp_ne (tgt := 17) hx hb dX5_run_12 (by decide) (fun c4 => ?_) (fun c4 => ?_)
  · have hf := (if_neg c4).symm.trans hf
    refine lv_aload_n hx hb dX5_run_17 rfl (lv_at hl 1 rfl) ?_
    refine gfX5_2 hx hb hts (fun _ h => List.mem_cons_of_mem _ (List.mem_append_left _ (List.mem_append_left _ (List.mem_append_left _ (List.mem_append_left _ (List.mem_append_right _ h)))))) hown hK hP (hts (Cond.fieldLink RX5 26 "WhoSpeaks" "story" "LWhoSpeaks$Story;") (List.mem_of_getElem? (i := 1) rfl)) dX5_run_18 ?_
    refine lv_iload_n hx hb dX5_run_21 rfl (lv_at hl 0 rfl) ?_
    obtain ⟨r5, h6, hf⟩ := ob1_some hf
    refine kVi (As := [.int r2]) (rest := []) ⟨hx, hb, hml, hown, hts⟩ (okX3_runLength l D cy ad A hD r2 S r5 h6) (cwV 1 hts gX5_run_X3_runLength rfl rfl rfl (by decide +kernel) ⟨Nat.le_of_ble_eq_true rfl, Nat.le_of_ble_eq_true rfl⟩) hK hP hS (va_recv hK.1 hP (ci := 3) (q := (RX3, TX3, 3)) rfl (atX5 cy ad S)) rfl hl.1 rfl (Nat.le_of_ble_eq_true rfl) dX5_run_22 (fun H locs hP hS => ?_)
    refine lv_istore (lv' := [(4, .int r5), (3, .int r2), (0, .ref (ad 0)), (1, .int p0), (2, .int p1)]) hx hb dX5_run_25 hl (by decide) rfl (fun ls hl => ?_)
    refine lv_iload_n hx hb dX5_run_27 rfl (lv_at hl 4 rfl) ?_
    by_cases c7 : p1 = 0
    · have hf := (if_pos c7).symm.trans hf
      refine lv_tableIn (off := 28) (tgt := 56) hx hb dX5_run_28 (by rw [c7]; decide) (by rw [c7]; decide) (by rw [c7]; rfl) (by decide) ?_
      refine lv_iload_n hx hb dX5_run_56 rfl (lv_at hl 1 rfl) ?_
      obtain ⟨he, hS9⟩ := Prod.mk.inj (Option.some.inj hf)
      subst hS9
      exact rI hx hb hr hP hS he hlocks dX5_run_57
    · have hf := (if_neg c7).symm.trans hf
      by_cases c8 : p1 = 1
      · have hf := (if_pos c8).symm.trans hf
        refine lv_tableIn (off := 30) (tgt := 58) hx hb dX5_run_28 (by rw [c8]; decide) (by rw [c8]; decide) (by rw [c8]; rfl) (by decide) ?_
        refine lv_iload hx hb dX5_run_58 (lv_at hl 0 rfl) ?_
        obtain ⟨he, hS9⟩ := Prod.mk.inj (Option.some.inj hf)
        subst hS9
        exact rI hx hb hr hP hS he hlocks dX5_run_60
      · have hf := (if_neg c8).symm.trans hf
        by_cases c9 : p1 = 2
        · have hf := (if_pos c9).symm.trans hf
          refine lv_tableIn (off := 33) (tgt := 61) hx hb dX5_run_28 (by rw [c9]; decide) (by rw [c9]; decide) (by rw [c9]; rfl) (by decide) ?_
          refine lv_aload_n hx hb dX5_run_61 rfl (lv_at hl 2 rfl) ?_
          obtain ⟨S11, h10, hf⟩ := ob1_some hf
          refine kVv (As := []) (rest := []) ⟨hx, hb, hml, hown, hts⟩ (okX5_fillChain l D cy ad A hD  S S11 h10) (cwV 0 hts gX5_run_X5_fillChain rfl rfl rfl (by decide +kernel) ⟨Nat.le_of_ble_eq_true rfl, Nat.le_of_ble_eq_true rfl⟩) hK hP hS (va_recv hK.1 hP (ci := 5) (q := (RX5, TX5, 9)) rfl (atX0 cy ad S)) rfl hl.1 rfl (Nat.le_of_ble_eq_true rfl) dX5_run_62 (fun H locs hP hS => ?_)
          refine lv_aload_n hx hb dX5_run_65 rfl (lv_at hl 2 rfl) ?_
          refine gfX5_3 hx hb hts (fun _ h => List.mem_cons_of_mem _ (List.mem_append_left _ (List.mem_append_left _ (List.mem_append_left _ (List.mem_append_left _ (List.mem_append_right _ h)))))) hown hK hP (hts (Cond.fieldLink RX5 33 "WhoSpeaks" "chain" "LWhoSpeaks$Chain;") (List.mem_of_getElem? (i := 2) rfl)) dX5_run_66 ?_
          refine lv_iload_n hx hb dX5_run_69 rfl (lv_at hl 1 rfl) ?_
          refine lv_iload hx hb dX5_run_70 (lv_at hl 0 rfl) ?_
          obtain ⟨r12, h13, hf⟩ := ob1_some hf
          refine kVi (As := [.int r2, .int r5]) (rest := []) ⟨hx, hb, hml, hown, hts⟩ (okX0_ownSetsJoined l D cy ad A hD r2 r5 S11 r12 h13) (cwV 2 hts gX5_run_X0_ownSetsJoined rfl rfl rfl (by decide +kernel) ⟨Nat.le_of_ble_eq_true rfl, Nat.le_of_ble_eq_true rfl⟩) hK hP hS (va_recv hK.1 hP (ci := 0) (q := (RX0, TX0, 9)) rfl (atX7 cy ad S11)) rfl hl.1 rfl (Nat.le_of_ble_eq_true rfl) dX5_run_72 (fun H locs hP hS => ?_)
          refine kSi (As := [.int r12]) (rest := []) ⟨hx, hb, hml, hown, hts⟩ (okJ6_bitCount_0f7a4 l D cy A (wX cy ad S11) r12 _ rfl) (va_cwS 1 hts gX5_run_J6_bitCount_0f7a4 rfl rfl rfl (by decide +kernel) ⟨Nat.le_of_ble_eq_true rfl, Nat.le_of_ble_eq_true rfl⟩) hK hP hS rfl hl.1 rfl (Nat.le_of_ble_eq_true rfl) dX5_run_75 (fun H locs hP hS => ?_)
          obtain ⟨he, hS9⟩ := Prod.mk.inj (Option.some.inj hf)
          subst hS9
          exact rI hx hb hr hP hS he hlocks dX5_run_78
        · have hf := (if_neg c9).symm.trans hf
          refine lv_tableOut (tgt := 79) hx hb dX5_run_28 (by have n0 := ne_toInt c7; have z0 : (0 : Int32).toInt = 0 := rfl; have n1 := ne_toInt c8; have z1 : (1 : Int32).toInt = 1 := rfl; have n2 := ne_toInt c9; have z2 : (2 : Int32).toInt = 2 := rfl; omega) (by decide) ?_
          refine lv_bipush (v := (-2)) hx hb dX5_run_79 (by decide) ?_
          obtain ⟨he, hS9⟩ := Prod.mk.inj (Option.some.inj hf)
          subst hS9
          exact rI hx hb hr hP hS he hlocks dX5_run_81
  · have hf := (if_pos c4).symm.trans hf
    refine lv_iconst (v := (-1)) hx hb dX5_run_15 (by decide) ?_
    obtain ⟨he, hS9⟩ := Prod.mk.inj (Option.some.inj hf)
    subst hS9
    exact rI hx hb hr hP hS he hlocks dX5_run_16

def fX0_isHadBy (p0 : Int32) (p1 : Int32) (S : XS) : Option Bool := (if (bi (fX5_isWithin p1 8)) = 0 then (some false) else (ob1 (fX0_sureSet p0 S) (fun r5 => (if r5 = (fX5_bitOf p1) then (some true) else (some false)))))
set_option maxHeartbeats 4000000 in
set_option maxRecDepth 100000 in
theorem okX0_isHadBy (l : Launch) (D : va_G) (cy : Nat → ClassId) (ad : Nat → Nat) (A : Nat → Prop) (hD : ∀ S, va_D A (wX cy ad S)) (p0 : Int32) (p1 : Int32) (S : XS) (r : Bool) (hf : fX0_isHadBy p0 p1 S = some r) : MI l yX0_isHadBy wsX0_isHadBy { frames := 3, cells := 0, slots := 0, locals := 63 } D cy A (wX cy ad S) [.ref (ad 7), .int p0, .int p1] (bi r) (wX cy ad S) := by
  refine Met.ofW (cc := cX0_isHadBy) (maxL := 3) (ret := (some .boolean)) (by decide) rfl ?_
  intro p e s m args below meth c s₁ B hml hv
  obtain ⟨ha, hP, hK⟩ := hv
  have hx := B.exec
  have hb := B.bytes
  have hr := B.returns
  have hts := atoms_spec (ws := wsX0_isHadBy) B.pre
  have hown : s.vm.findClass RX0 = some m.cls := findClass_of_methodNamed B.named
  have hlocks := B.notSynchronized
  have hS : va_S A s.heap s.heap [] := va_S.rf
  obtain ⟨ls, hl, he0⟩ := ent (m := m) ha (n := 3) (Nat.le_of_ble_eq_true rfl)
  refine W.eq he0 ?_
  have hl : lv_has ls 3 [(0, .ref (ad 7)), (1, .int p0), (2, .int p1)] := hl
  unfold fX0_isHadBy at hf
  suffices hG : ∀ (H : Heap) (locs : List Loc), va_P D vwCl (wX cy ad S) H → va_S A s.heap H locs → W p l e (headSpec wsX0_isHadBy { frames := 3, cells := 0, slots := 0, locals := 63 }).room s m args below meth c H locs 0 0 (MQ below (QcI D A (bi r) (wX cy ad S)) args s 0 0 A) (F0 m 0 ls []) by exact hG s.heap [] hP va_S.rf
  clear hP hS
  intro H locs hP hS
  refine lv_iload_n hx hb dX0_isHadBy_0 rfl (lv_at hl 2 rfl) ?_
  refine lv_bipush (v := 8) hx hb dX0_isHadBy_1 (by decide) ?_
  refine kNi (As := [.int p1, .int 8]) (rest := []) ⟨hx, hb, hml, hown, hts⟩ (okX5_isWithin l D cy A (wX cy ad S) p1 8 _ rfl) ⟨va_cnB 2 hts gX0_isHadBy_X5_isWithin_n42 rfl rfl rfl hK.2.2.2.2.1 (hts (Cond.initialized RX5) (List.mem_of_getElem? (i := 2) rfl)) (by decide +kernel) ⟨Nat.le_of_ble_eq_true rfl, Nat.le_of_ble_eq_true rfl⟩, (hts (Cond.static yX5_isWithin) (List.mem_of_getElem? (i := 1) rfl)), trivial⟩ hK hP hS rfl hl.1 rfl (Nat.le_of_ble_eq_true rfl) dX0_isHadBy_3 (fun H locs hP hS => ?_)
  refine lv_if_eq (tgt := 25) hx hb dX0_isHadBy_6 (by decide) (fun c4 => ?_) (fun c4 => ?_)
  · have hf := (if_pos c4).symm.trans hf
    refine lv_iconst (v := 0) hx hb dX0_isHadBy_25 (by decide) ?_
    have he := Option.some.inj hf
    exact rZ hx hb hr (bi_nar false) hP hS (congrArg bi he) hlocks dX0_isHadBy_26
  · have hf := (if_neg c4).symm.trans hf
    refine lv_aload_n hx hb dX0_isHadBy_9 rfl (lv_at hl 0 rfl) ?_
    refine lv_iload_n hx hb dX0_isHadBy_10 rfl (lv_at hl 1 rfl) ?_
    obtain ⟨r5, h6, hf⟩ := ob1_some hf
    refine kVi (As := [.int p0]) (rest := []) ⟨hx, hb, hml, hown, hts⟩ (okX0_sureSet l D cy ad A hD p0 S r5 h6) (cwV 1 hts gX0_isHadBy_X0_sureSet rfl rfl rfl (by decide +kernel) ⟨Nat.le_of_ble_eq_true rfl, Nat.le_of_ble_eq_true rfl⟩) hK hP hS (va_recv hK.1 hP (ci := 0) (q := (RX0, TX0, 9)) rfl (atX7 cy ad S)) rfl hl.1 rfl (Nat.le_of_ble_eq_true rfl) dX0_isHadBy_11 (fun H locs hP hS => ?_)
    refine lv_iload_n hx hb dX0_isHadBy_14 rfl (lv_at hl 2 rfl) ?_
    refine kNi (As := [.int p1]) (rest := [.int r5]) ⟨hx, hb, hml, hown, hts⟩ (okX5_bitOf l D cy A (wX cy ad S) p1 _ rfl) ⟨va_cnB 1 hts gX0_isHadBy_X5_bitOf_n54 rfl rfl rfl hK.2.2.2.2.2.1 (hts (Cond.initialized RX5) (List.mem_of_getElem? (i := 2) rfl)) (by decide +kernel) ⟨Nat.le_of_ble_eq_true rfl, Nat.le_of_ble_eq_true rfl⟩, (hts (Cond.static yX5_bitOf) (List.mem_of_getElem? (i := 15) rfl)), trivial⟩ hK hP hS rfl hl.1 rfl (Nat.le_of_ble_eq_true rfl) dX0_isHadBy_15 (fun H locs hP hS => ?_)
    refine lv_icmp_ne (tgt := 25) hx hb dX0_isHadBy_18 (by decide) (fun c8 => ?_) (fun c8 => ?_)
    · have hf := (if_neg c8).symm.trans hf
      refine lv_iconst (v := 0) hx hb dX0_isHadBy_25 (by decide) ?_
      have he := Option.some.inj hf
      exact rZ hx hb hr (bi_nar false) hP hS (congrArg bi he) hlocks dX0_isHadBy_26
    · have hf := (if_pos c8).symm.trans hf
      refine lv_iconst (v := 1) hx hb dX0_isHadBy_21 (by decide) ?_
      refine lv_goto (tgt := 26) hx hb dX0_isHadBy_22 (by decide) ?_
      have he := Option.some.inj hf
      exact rZ hx hb hr (bi_nar true) hP hS (congrArg bi he) hlocks dX0_isHadBy_26

def bX0_hadBy_4  (k4 : Int32 × Int32 × Int32 × XS → Option Int32) (x1 : Int32) (x2 : Int32) (x3 : Int32) (S : XS) : Option Int32 := (if (xi S 5) ≤ x3 then (some x2) else (ob1 (fX0_isHadBy x3 x1 S) (fun r8 => (if (bi r8) = 0 then (k4 (x1, x2, (x3 + 1), S)) else (k4 (x1, (x2 + 1), (x3 + 1), S))))))
def fX0_hadBy (p0 : Int32) (S : XS) : Option Int32 := (lp (fun k q => bX0_hadBy_4  k q.1 q.2.1 q.2.2.1 q.2.2.2) FU (p0, 0, 0, S))
set_option maxHeartbeats 4000000 in
set_option maxRecDepth 100000 in
theorem okX0_hadBy (l : Launch) (D : va_G) (cy : Nat → ClassId) (ad : Nat → Nat) (A : Nat → Prop) (hD : ∀ S, va_D A (wX cy ad S)) (p0 : Int32) (S : XS) (r : Int32) (hf : fX0_hadBy p0 S = some r) : MI l yX0_hadBy wsX0_hadBy { frames := 4, cells := 0, slots := 0, locals := 85 } D cy A (wX cy ad S) [.ref (ad 7), .int p0] r (wX cy ad S) := by
  refine Met.ofW (cc := cX0_hadBy) (maxL := 4) (ret := (some .int)) (by decide) rfl ?_
  intro p e s m args below meth c s₁ B hml hv
  obtain ⟨ha, hP, hK⟩ := hv
  have hx := B.exec
  have hb := B.bytes
  have hr := B.returns
  have hts := atoms_spec (ws := wsX0_hadBy) B.pre
  have hown : s.vm.findClass RX0 = some m.cls := findClass_of_methodNamed B.named
  have hlocks := B.notSynchronized
  have hS : va_S A s.heap s.heap [] := va_S.rf
  obtain ⟨ls, hl, he0⟩ := ent (m := m) ha (n := 4) (Nat.le_of_ble_eq_true rfl)
  refine W.eq he0 ?_
  have hl : lv_has ls 4 [(0, .ref (ad 7)), (1, .int p0)] := hl
  have K4 : ∀ (n : Nat), ∀ (x1 : Int32) (x2 : Int32) (x3 : Int32) (S : XS) (H : Heap) (locs : List Loc) (ls : Array Slot), va_P D vwCl (wX cy ad S) H → va_S A s.heap H locs → lv_has ls 4 [(0, .ref (ad 7)), (1, .int x1), (2, .int x2), (3, .int x3)] → lp (fun k q => bX0_hadBy_4  k q.1 q.2.1 q.2.2.1 q.2.2.2) n (x1, x2, x3, S) = some r → W p l e (headSpec wsX0_hadBy { frames := 4, cells := 0, slots := 0, locals := 85 }).room s m args below meth c H locs 0 0 (MQ below (QcI D A r (wX cy ad S)) args s 0 0 A) (F0 m 4 ls []) := by
    intro  n
    induction n with
    | zero =>
      intro x1 x2 x3 S H locs ls hP hS hl hf
      cases hf
    | succ n ih4 =>
      intro x1 x2 x3 S H locs ls hP hS hl hf
      have hf : bX0_hadBy_4  (lp (fun k q => bX0_hadBy_4  k q.1 q.2.1 q.2.2.1 q.2.2.2) n) x1 x2 x3 S = some r := hf
      generalize lp (fun k q => bX0_hadBy_4  k q.1 q.2.1 q.2.2.1 q.2.2.2) n = k4 at hf ih4
      unfold bX0_hadBy_4 at hf
      refine lv_iload_n hx hb dX0_hadBy_4 rfl (lv_at hl 3 rfl) ?_
      refine lv_aload_n hx hb dX0_hadBy_5 rfl (lv_at hl 0 rfl) ?_
      refine gfX0_8 hx hb hts (fun _ h => List.mem_cons_of_mem _ (List.mem_append_right _ h)) hown hK hP (hts (Cond.fieldLink RX0 38 "WhoSpeaks$Chain" "count" "I") (List.mem_of_getElem? (i := 1) rfl)) dX0_hadBy_6 ?_
      refine lv_icmp_ge (tgt := 30) hx hb dX0_hadBy_9 (by decide) (fun c7 => ?_) (fun c7 => ?_)
      · have hf := (if_pos c7).symm.trans hf
        refine lv_iload_n hx hb dX0_hadBy_30 rfl (lv_at hl 2 rfl) ?_
        have he := Option.some.inj hf
        exact rI hx hb hr hP hS he hlocks dX0_hadBy_31
      · have hf := (if_neg c7).symm.trans hf
        refine lv_aload_n hx hb dX0_hadBy_12 rfl (lv_at hl 0 rfl) ?_
        refine lv_iload_n hx hb dX0_hadBy_13 rfl (lv_at hl 3 rfl) ?_
        refine lv_iload_n hx hb dX0_hadBy_14 rfl (lv_at hl 1 rfl) ?_
        obtain ⟨r8, h9, hf⟩ := ob1_some hf
        refine kVi (As := [.int x3, .int x1]) (rest := []) ⟨hx, hb, hml, hown, hts⟩ (okX0_isHadBy l D cy ad A hD x3 x1 S r8 h9) (cwV 2 hts gX0_hadBy_X0_isHadBy rfl rfl rfl (by decide +kernel) ⟨Nat.le_of_ble_eq_true rfl, Nat.le_of_ble_eq_true rfl⟩) hK hP hS (va_recv hK.1 hP (ci := 0) (q := (RX0, TX0, 9)) rfl (atX7 cy ad S)) rfl hl.1 rfl (Nat.le_of_ble_eq_true rfl) dX0_hadBy_15 (fun H locs hP hS => ?_)
        refine lv_if_eq (tgt := 24) hx hb dX0_hadBy_18 (by decide) (fun c10 => ?_) (fun c10 => ?_)
        · have hf := (if_pos c10).symm.trans hf
          refine lv_iinc (v := (x3 + 1)) (lv' := [(3, .int (x3 + 1)), (0, .ref (ad 7)), (1, .int x1), (2, .int x2)]) hx hb dX0_hadBy_24 hl (k := 3) rfl rfl (by decide) rfl (fun ls hl => ?_)
          refine lv_goto (tgt := 4) hx hb dX0_hadBy_27 (by decide) ?_
          exact ih4 (x1) (x2) ((x3 + 1)) S H locs ls hP hS (lv_sub hl [1, 2, 3, 0] rfl) hf
        · have hf := (if_neg c10).symm.trans hf
          refine lv_iinc (v := (x2 + 1)) (lv' := [(2, .int (x2 + 1)), (0, .ref (ad 7)), (1, .int x1), (3, .int x3)]) hx hb dX0_hadBy_21 hl (k := 2) rfl rfl (by decide) rfl (fun ls hl => ?_)
          refine lv_iinc (v := (x3 + 1)) (lv' := [(3, .int (x3 + 1)), (2, .int (x2 + 1)), (0, .ref (ad 7)), (1, .int x1)]) hx hb dX0_hadBy_24 hl (k := 3) rfl rfl (by decide) rfl (fun ls hl => ?_)
          refine lv_goto (tgt := 4) hx hb dX0_hadBy_27 (by decide) ?_
          exact ih4 (x1) ((x2 + 1)) ((x3 + 1)) S H locs ls hP hS (lv_sub hl [2, 3, 1, 0] rfl) hf
  unfold fX0_hadBy at hf
  suffices hG : ∀ (H : Heap) (locs : List Loc), va_P D vwCl (wX cy ad S) H → va_S A s.heap H locs → W p l e (headSpec wsX0_hadBy { frames := 4, cells := 0, slots := 0, locals := 85 }).room s m args below meth c H locs 0 0 (MQ below (QcI D A r (wX cy ad S)) args s 0 0 A) (F0 m 0 ls []) by exact hG s.heap [] hP va_S.rf
  clear hP hS
  intro H locs hP hS
  refine lv_iconst (v := 0) hx hb dX0_hadBy_0 (by decide) ?_
  refine lv_istore_n (lv' := [(2, .int 0), (0, .ref (ad 7)), (1, .int p0)]) hx hb dX0_hadBy_1 rfl hl (by decide) rfl (fun ls hl => ?_)
  refine lv_iconst (v := 0) hx hb dX0_hadBy_2 (by decide) ?_
  refine lv_istore_n (lv' := [(3, .int 0), (2, .int 0), (0, .ref (ad 7)), (1, .int p0)]) hx hb dX0_hadBy_3 rfl hl (by decide) rfl (fun ls hl => ?_)
  exact K4  FU (p0) (0) (0) S H locs ls hP hS (lv_sub hl [2, 3, 1, 0] rfl) hf

def bX0_maybeHadBy_4  (k4 : Int32 × Int32 × Int32 × XS → Option Int32) (x1 : Int32) (x2 : Int32) (x3 : Int32) (S : XS) : Option Int32 := (if (xi S 5) ≤ x3 then (some x2) else (ob1 (fX0_sureSet x3 S) (fun r8 => (if (r8 &&& (fX5_bitOf x1)) = 0 then (k4 (x1, x2, (x3 + 1), S)) else (k4 (x1, (x2 + 1), (x3 + 1), S))))))
def fX0_maybeHadBy (p0 : Int32) (S : XS) : Option Int32 := (lp (fun k q => bX0_maybeHadBy_4  k q.1 q.2.1 q.2.2.1 q.2.2.2) FU (p0, 0, 0, S))
set_option maxHeartbeats 4000000 in
set_option maxRecDepth 100000 in
theorem okX0_maybeHadBy (l : Launch) (D : va_G) (cy : Nat → ClassId) (ad : Nat → Nat) (A : Nat → Prop) (hD : ∀ S, va_D A (wX cy ad S)) (p0 : Int32) (S : XS) (r : Int32) (hf : fX0_maybeHadBy p0 S = some r) : MI l yX0_maybeHadBy wsX0_maybeHadBy { frames := 3, cells := 0, slots := 0, locals := 63 } D cy A (wX cy ad S) [.ref (ad 7), .int p0] r (wX cy ad S) := by
  refine Met.ofW (cc := cX0_maybeHadBy) (maxL := 4) (ret := (some .int)) (by decide) rfl ?_
  intro p e s m args below meth c s₁ B hml hv
  obtain ⟨ha, hP, hK⟩ := hv
  have hx := B.exec
  have hb := B.bytes
  have hr := B.returns
  have hts := atoms_spec (ws := wsX0_maybeHadBy) B.pre
  have hown : s.vm.findClass RX0 = some m.cls := findClass_of_methodNamed B.named
  have hlocks := B.notSynchronized
  have hS : va_S A s.heap s.heap [] := va_S.rf
  obtain ⟨ls, hl, he0⟩ := ent (m := m) ha (n := 4) (Nat.le_of_ble_eq_true rfl)
  refine W.eq he0 ?_
  have hl : lv_has ls 4 [(0, .ref (ad 7)), (1, .int p0)] := hl
  have K4 : ∀ (n : Nat), ∀ (x1 : Int32) (x2 : Int32) (x3 : Int32) (S : XS) (H : Heap) (locs : List Loc) (ls : Array Slot), va_P D vwCl (wX cy ad S) H → va_S A s.heap H locs → lv_has ls 4 [(0, .ref (ad 7)), (1, .int x1), (2, .int x2), (3, .int x3)] → lp (fun k q => bX0_maybeHadBy_4  k q.1 q.2.1 q.2.2.1 q.2.2.2) n (x1, x2, x3, S) = some r → W p l e (headSpec wsX0_maybeHadBy { frames := 3, cells := 0, slots := 0, locals := 63 }).room s m args below meth c H locs 0 0 (MQ below (QcI D A r (wX cy ad S)) args s 0 0 A) (F0 m 4 ls []) := by
    intro  n
    induction n with
    | zero =>
      intro x1 x2 x3 S H locs ls hP hS hl hf
      cases hf
    | succ n ih4 =>
      intro x1 x2 x3 S H locs ls hP hS hl hf
      have hf : bX0_maybeHadBy_4  (lp (fun k q => bX0_maybeHadBy_4  k q.1 q.2.1 q.2.2.1 q.2.2.2) n) x1 x2 x3 S = some r := hf
      generalize lp (fun k q => bX0_maybeHadBy_4  k q.1 q.2.1 q.2.2.1 q.2.2.2) n = k4 at hf ih4
      unfold bX0_maybeHadBy_4 at hf
      refine lv_iload_n hx hb dX0_maybeHadBy_4 rfl (lv_at hl 3 rfl) ?_
      refine lv_aload_n hx hb dX0_maybeHadBy_5 rfl (lv_at hl 0 rfl) ?_
      refine gfX0_8 hx hb hts (fun _ h => List.mem_cons_of_mem _ (List.mem_append_right _ h)) hown hK hP (hts (Cond.fieldLink RX0 38 "WhoSpeaks$Chain" "count" "I") (List.mem_of_getElem? (i := 1) rfl)) dX0_maybeHadBy_6 ?_
      refine lv_icmp_ge (tgt := 34) hx hb dX0_maybeHadBy_9 (by decide) (fun c7 => ?_) (fun c7 => ?_)
      · have hf := (if_pos c7).symm.trans hf
        refine lv_iload_n hx hb dX0_maybeHadBy_34 rfl (lv_at hl 2 rfl) ?_
        have he := Option.some.inj hf
        exact rI hx hb hr hP hS he hlocks dX0_maybeHadBy_35
      · have hf := (if_neg c7).symm.trans hf
        refine lv_aload_n hx hb dX0_maybeHadBy_12 rfl (lv_at hl 0 rfl) ?_
        refine lv_iload_n hx hb dX0_maybeHadBy_13 rfl (lv_at hl 3 rfl) ?_
        obtain ⟨r8, h9, hf⟩ := ob1_some hf
        refine kVi (As := [.int x3]) (rest := []) ⟨hx, hb, hml, hown, hts⟩ (okX0_sureSet l D cy ad A hD x3 S r8 h9) (cwV 1 hts gX0_maybeHadBy_X0_sureSet rfl rfl rfl (by decide +kernel) ⟨Nat.le_of_ble_eq_true rfl, Nat.le_of_ble_eq_true rfl⟩) hK hP hS (va_recv hK.1 hP (ci := 0) (q := (RX0, TX0, 9)) rfl (atX7 cy ad S)) rfl hl.1 rfl (Nat.le_of_ble_eq_true rfl) dX0_maybeHadBy_14 (fun H locs hP hS => ?_)
        refine lv_iload_n hx hb dX0_maybeHadBy_17 rfl (lv_at hl 1 rfl) ?_
        refine kNi (As := [.int x1]) (rest := [.int r8]) ⟨hx, hb, hml, hown, hts⟩ (okX5_bitOf l D cy A (wX cy ad S) x1 _ rfl) ⟨va_cnB 1 hts gX0_maybeHadBy_X5_bitOf_n54 rfl rfl rfl hK.2.2.2.2.2.1 (hts (Cond.initialized RX5) (List.mem_of_getElem? (i := 13) rfl)) (by decide +kernel) ⟨Nat.le_of_ble_eq_true rfl, Nat.le_of_ble_eq_true rfl⟩, (hts (Cond.static yX5_bitOf) (List.mem_of_getElem? (i := 15) rfl)), trivial⟩ hK hP hS rfl hl.1 rfl (Nat.le_of_ble_eq_true rfl) dX0_maybeHadBy_18 (fun H locs hP hS => ?_)
        refine lv_iand hx hb dX0_maybeHadBy_21 ?_
        refine lv_if_eq (tgt := 28) hx hb dX0_maybeHadBy_22 (by decide) (fun c11 => ?_) (fun c11 => ?_)
        · have hf := (if_pos c11).symm.trans hf
          refine lv_iinc (v := (x3 + 1)) (lv' := [(3, .int (x3 + 1)), (0, .ref (ad 7)), (1, .int x1), (2, .int x2)]) hx hb dX0_maybeHadBy_28 hl (k := 3) rfl rfl (by decide) rfl (fun ls hl => ?_)
          refine lv_goto (tgt := 4) hx hb dX0_maybeHadBy_31 (by decide) ?_
          exact ih4 (x1) (x2) ((x3 + 1)) S H locs ls hP hS (lv_sub hl [1, 2, 3, 0] rfl) hf
        · have hf := (if_neg c11).symm.trans hf
          refine lv_iinc (v := (x2 + 1)) (lv' := [(2, .int (x2 + 1)), (0, .ref (ad 7)), (1, .int x1), (3, .int x3)]) hx hb dX0_maybeHadBy_25 hl (k := 2) rfl rfl (by decide) rfl (fun ls hl => ?_)
          refine lv_iinc (v := (x3 + 1)) (lv' := [(3, .int (x3 + 1)), (2, .int (x2 + 1)), (0, .ref (ad 7)), (1, .int x1)]) hx hb dX0_maybeHadBy_28 hl (k := 3) rfl rfl (by decide) rfl (fun ls hl => ?_)
          refine lv_goto (tgt := 4) hx hb dX0_maybeHadBy_31 (by decide) ?_
          exact ih4 (x1) ((x2 + 1)) ((x3 + 1)) S H locs ls hP hS (lv_sub hl [2, 3, 1, 0] rfl) hf
  unfold fX0_maybeHadBy at hf
  suffices hG : ∀ (H : Heap) (locs : List Loc), va_P D vwCl (wX cy ad S) H → va_S A s.heap H locs → W p l e (headSpec wsX0_maybeHadBy { frames := 3, cells := 0, slots := 0, locals := 63 }).room s m args below meth c H locs 0 0 (MQ below (QcI D A r (wX cy ad S)) args s 0 0 A) (F0 m 0 ls []) by exact hG s.heap [] hP va_S.rf
  clear hP hS
  intro H locs hP hS
  refine lv_iconst (v := 0) hx hb dX0_maybeHadBy_0 (by decide) ?_
  refine lv_istore_n (lv' := [(2, .int 0), (0, .ref (ad 7)), (1, .int p0)]) hx hb dX0_maybeHadBy_1 rfl hl (by decide) rfl (fun ls hl => ?_)
  refine lv_iconst (v := 0) hx hb dX0_maybeHadBy_2 (by decide) ?_
  refine lv_istore_n (lv' := [(3, .int 0), (2, .int 0), (0, .ref (ad 7)), (1, .int p0)]) hx hb dX0_maybeHadBy_3 rfl hl (by decide) rfl (fun ls hl => ?_)
  exact K4  FU (p0) (0) (0) S H locs ls hP hS (lv_sub hl [2, 3, 1, 0] rfl) hf
