def bX3_speaking_4  (k4 : Int32 × Int32 × XS → Option Int32) (x1 : Int32) (x2 : Int32) (S : XS) : Option Int32 := (if (xi S 4) ≤ x2 then (some x1) else (ob1 (fX3_speaksAt x2 S) (fun r8 => (if (bi r8) = 0 then (k4 (x1, (x2 + 1), S)) else (k4 ((x1 + 1), (x2 + 1), S))))))
def fX3_speaking  (S : XS) : Option Int32 := (lp (fun k q => bX3_speaking_4  k q.1 q.2.1 q.2.2) FU (0, 0, S))
set_option maxHeartbeats 4000000 in
set_option maxRecDepth 100000 in
theorem okX3_speaking (l : Launch) (D : va_G) (cy : Nat → ClassId) (ad : Nat → Nat) (A : Nat → Prop) (hD : ∀ S, va_D A (wX cy ad S))  (S : XS) (r : Int32) (hf : fX3_speaking  S = some r) : MI l yX3_speaking wsX3_speaking { frames := 3, cells := 0, slots := 0, locals := 63 } D cy A (wX cy ad S) [.ref (ad 5)] r (wX cy ad S) := by
  refine Met.ofW (cc := cX3_speaking) (maxL := 3) (ret := (some .int)) (by decide) rfl ?_
  intro p e s m args below meth c s₁ B hml hv
  obtain ⟨ha, hP, hK⟩ := hv
  have hx := B.exec
  have hb := B.bytes
  have hr := B.returns
  have hts := atoms_spec (ws := wsX3_speaking) B.pre
  have hown : s.vm.findClass RX3 = some m.cls := findClass_of_methodNamed B.named
  have hlocks := B.notSynchronized
  have hS : va_S A s.heap s.heap [] := va_S.rf
  obtain ⟨ls, hl, he0⟩ := ent (m := m) ha (n := 3) (Nat.le_of_ble_eq_true rfl)
  refine W.eq he0 ?_
  have hl : lv_has ls 3 [(0, .ref (ad 5))] := hl
  have K4 : ∀ (n : Nat), ∀ (x1 : Int32) (x2 : Int32) (S : XS) (H : Heap) (locs : List Loc) (ls : Array Slot), va_P D vwCl (wX cy ad S) H → va_S A s.heap H locs → lv_has ls 3 [(0, .ref (ad 5)), (1, .int x1), (2, .int x2)] → lp (fun k q => bX3_speaking_4  k q.1 q.2.1 q.2.2) n (x1, x2, S) = some r → W p l e (headSpec wsX3_speaking { frames := 3, cells := 0, slots := 0, locals := 63 }).room s m args below meth c H locs 0 0 (MQ below (QcI D A r (wX cy ad S)) args s 0 0 A) (F0 m 4 ls []) := by
    intro  n
    induction n with
    | zero =>
      intro x1 x2 S H locs ls hP hS hl hf
      cases hf
    | succ n ih4 =>
      intro x1 x2 S H locs ls hP hS hl hf
      have hf : bX3_speaking_4  (lp (fun k q => bX3_speaking_4  k q.1 q.2.1 q.2.2) n) x1 x2 S = some r := hf
      generalize lp (fun k q => bX3_speaking_4  k q.1 q.2.1 q.2.2) n = k4 at hf ih4
      unfold bX3_speaking_4 at hf
      refine lv_iload_n hx hb dX3_speaking_4 rfl (lv_at hl 2 rfl) ?_
      refine lv_aload_n hx hb dX3_speaking_5 rfl (lv_at hl 0 rfl) ?_
      refine gfX3_2 hx hb hts (fun _ h => List.mem_cons_of_mem _ (List.mem_append_left _ (List.mem_append_right _ h))) hown hK hP (hts (Cond.fieldLink RX3 22 "WhoSpeaks$Story" "count" "I") (List.mem_of_getElem? (i := 1) rfl)) dX3_speaking_6 ?_
      refine lv_icmp_ge (tgt := 29) hx hb dX3_speaking_9 (by decide) (fun c7 => ?_) (fun c7 => ?_)
      · have hf := (if_pos c7).symm.trans hf
        refine lv_iload_n hx hb dX3_speaking_29 rfl (lv_at hl 1 rfl) ?_
        have he := Option.some.inj hf
        exact rI hx hb hr hP hS he hlocks dX3_speaking_30
      · have hf := (if_neg c7).symm.trans hf
        refine lv_aload_n hx hb dX3_speaking_12 rfl (lv_at hl 0 rfl) ?_
        refine lv_iload_n hx hb dX3_speaking_13 rfl (lv_at hl 2 rfl) ?_
        obtain ⟨r8, h9, hf⟩ := ob1_some hf
        refine kVi (As := [.int x2]) (rest := []) ⟨hx, hb, hml, hown, hts⟩ (okX3_speaksAt l D cy ad A hD x2 S r8 h9) (cwV 1 hts gX3_speaking_X3_speaksAt rfl rfl rfl (by decide +kernel) ⟨Nat.le_of_ble_eq_true rfl, Nat.le_of_ble_eq_true rfl⟩) hK hP hS (va_recv hK.1 hP (ci := 3) (q := (RX3, TX3, 3)) rfl (atX5 cy ad S)) rfl hl.1 rfl (Nat.le_of_ble_eq_true rfl) dX3_speaking_14 (fun H locs hP hS => ?_)
        refine lv_if_eq (tgt := 23) hx hb dX3_speaking_17 (by decide) (fun c10 => ?_) (fun c10 => ?_)
        · have hf := (if_pos c10).symm.trans hf
          refine lv_iinc (v := (x2 + 1)) (lv' := [(2, .int (x2 + 1)), (0, .ref (ad 5)), (1, .int x1)]) hx hb dX3_speaking_23 hl (k := 2) rfl rfl (by decide) rfl (fun ls hl => ?_)
          refine lv_goto (tgt := 4) hx hb dX3_speaking_26 (by decide) ?_
          exact ih4 (x1) ((x2 + 1)) S H locs ls hP hS (lv_sub hl [1, 2, 0] rfl) hf
        · have hf := (if_neg c10).symm.trans hf
          refine lv_iinc (v := (x1 + 1)) (lv' := [(1, .int (x1 + 1)), (0, .ref (ad 5)), (2, .int x2)]) hx hb dX3_speaking_20 hl (k := 1) rfl rfl (by decide) rfl (fun ls hl => ?_)
          refine lv_iinc (v := (x2 + 1)) (lv' := [(2, .int (x2 + 1)), (1, .int (x1 + 1)), (0, .ref (ad 5))]) hx hb dX3_speaking_23 hl (k := 2) rfl rfl (by decide) rfl (fun ls hl => ?_)
          refine lv_goto (tgt := 4) hx hb dX3_speaking_26 (by decide) ?_
          exact ih4 ((x1 + 1)) ((x2 + 1)) S H locs ls hP hS (lv_sub hl [2, 1, 0] rfl) hf
  unfold fX3_speaking at hf
  suffices hG : ∀ (H : Heap) (locs : List Loc), va_P D vwCl (wX cy ad S) H → va_S A s.heap H locs → W p l e (headSpec wsX3_speaking { frames := 3, cells := 0, slots := 0, locals := 63 }).room s m args below meth c H locs 0 0 (MQ below (QcI D A r (wX cy ad S)) args s 0 0 A) (F0 m 0 ls []) by exact hG s.heap [] hP va_S.rf
  clear hP hS
  intro H locs hP hS
  refine lv_iconst (v := 0) hx hb dX3_speaking_0 (by decide) ?_
  refine lv_istore_n (lv' := [(1, .int 0), (0, .ref (ad 5))]) hx hb dX3_speaking_1 rfl hl (by decide) rfl (fun ls hl => ?_)
  refine lv_iconst (v := 0) hx hb dX3_speaking_2 (by decide) ?_
  refine lv_istore_n (lv' := [(2, .int 0), (1, .int 0), (0, .ref (ad 5))]) hx hb dX3_speaking_3 rfl hl (by decide) rfl (fun ls hl => ?_)
  exact K4  FU (0) (0) S H locs ls hP hS (lv_sub hl [2, 1, 0] rfl) hf

def bX3_runs_4  (k4 : Int32 × Int32 × XS → Option Int32) (x1 : Int32) (x2 : Int32) (S : XS) : Option Int32 := (if (xi S 4) ≤ x2 then (some x1) else (ob1 (fX3_beginsRun x2 S) (fun r8 => (if (bi r8) = 0 then (k4 (x1, (x2 + 1), S)) else (k4 ((x1 + 1), (x2 + 1), S))))))
def fX3_runs  (S : XS) : Option Int32 := (lp (fun k q => bX3_runs_4  k q.1 q.2.1 q.2.2) FU (0, 0, S))
set_option maxHeartbeats 4000000 in
set_option maxRecDepth 100000 in
theorem okX3_runs (l : Launch) (D : va_G) (cy : Nat → ClassId) (ad : Nat → Nat) (A : Nat → Prop) (hD : ∀ S, va_D A (wX cy ad S))  (S : XS) (r : Int32) (hf : fX3_runs  S = some r) : MI l yX3_runs wsX3_runs { frames := 4, cells := 0, slots := 0, locals := 84 } D cy A (wX cy ad S) [.ref (ad 5)] r (wX cy ad S) := by
  refine Met.ofW (cc := cX3_runs) (maxL := 3) (ret := (some .int)) (by decide) rfl ?_
  intro p e s m args below meth c s₁ B hml hv
  obtain ⟨ha, hP, hK⟩ := hv
  have hx := B.exec
  have hb := B.bytes
  have hr := B.returns
  have hts := atoms_spec (ws := wsX3_runs) B.pre
  have hown : s.vm.findClass RX3 = some m.cls := findClass_of_methodNamed B.named
  have hlocks := B.notSynchronized
  have hS : va_S A s.heap s.heap [] := va_S.rf
  obtain ⟨ls, hl, he0⟩ := ent (m := m) ha (n := 3) (Nat.le_of_ble_eq_true rfl)
  refine W.eq he0 ?_
  have hl : lv_has ls 3 [(0, .ref (ad 5))] := hl
  have K4 : ∀ (n : Nat), ∀ (x1 : Int32) (x2 : Int32) (S : XS) (H : Heap) (locs : List Loc) (ls : Array Slot), va_P D vwCl (wX cy ad S) H → va_S A s.heap H locs → lv_has ls 3 [(0, .ref (ad 5)), (1, .int x1), (2, .int x2)] → lp (fun k q => bX3_runs_4  k q.1 q.2.1 q.2.2) n (x1, x2, S) = some r → W p l e (headSpec wsX3_runs { frames := 4, cells := 0, slots := 0, locals := 84 }).room s m args below meth c H locs 0 0 (MQ below (QcI D A r (wX cy ad S)) args s 0 0 A) (F0 m 4 ls []) := by
    intro  n
    induction n with
    | zero =>
      intro x1 x2 S H locs ls hP hS hl hf
      cases hf
    | succ n ih4 =>
      intro x1 x2 S H locs ls hP hS hl hf
      have hf : bX3_runs_4  (lp (fun k q => bX3_runs_4  k q.1 q.2.1 q.2.2) n) x1 x2 S = some r := hf
      generalize lp (fun k q => bX3_runs_4  k q.1 q.2.1 q.2.2) n = k4 at hf ih4
      unfold bX3_runs_4 at hf
      refine lv_iload_n hx hb dX3_runs_4 rfl (lv_at hl 2 rfl) ?_
      refine lv_aload_n hx hb dX3_runs_5 rfl (lv_at hl 0 rfl) ?_
      refine gfX3_2 hx hb hts (fun _ h => List.mem_cons_of_mem _ (List.mem_append_left _ (List.mem_append_right _ h))) hown hK hP (hts (Cond.fieldLink RX3 22 "WhoSpeaks$Story" "count" "I") (List.mem_of_getElem? (i := 1) rfl)) dX3_runs_6 ?_
      refine lv_icmp_ge (tgt := 29) hx hb dX3_runs_9 (by decide) (fun c7 => ?_) (fun c7 => ?_)
      · have hf := (if_pos c7).symm.trans hf
        refine lv_iload_n hx hb dX3_runs_29 rfl (lv_at hl 1 rfl) ?_
        have he := Option.some.inj hf
        exact rI hx hb hr hP hS he hlocks dX3_runs_30
      · have hf := (if_neg c7).symm.trans hf
        refine lv_aload_n hx hb dX3_runs_12 rfl (lv_at hl 0 rfl) ?_
        refine lv_iload_n hx hb dX3_runs_13 rfl (lv_at hl 2 rfl) ?_
        obtain ⟨r8, h9, hf⟩ := ob1_some hf
        refine kVi (As := [.int x2]) (rest := []) ⟨hx, hb, hml, hown, hts⟩ (okX3_beginsRun l D cy ad A hD x2 S r8 h9) (cwV 1 hts gX3_runs_X3_beginsRun rfl rfl rfl (by decide +kernel) ⟨Nat.le_of_ble_eq_true rfl, Nat.le_of_ble_eq_true rfl⟩) hK hP hS (va_recv hK.1 hP (ci := 3) (q := (RX3, TX3, 3)) rfl (atX5 cy ad S)) rfl hl.1 rfl (Nat.le_of_ble_eq_true rfl) dX3_runs_14 (fun H locs hP hS => ?_)
        refine lv_if_eq (tgt := 23) hx hb dX3_runs_17 (by decide) (fun c10 => ?_) (fun c10 => ?_)
        · have hf := (if_pos c10).symm.trans hf
          refine lv_iinc (v := (x2 + 1)) (lv' := [(2, .int (x2 + 1)), (0, .ref (ad 5)), (1, .int x1)]) hx hb dX3_runs_23 hl (k := 2) rfl rfl (by decide) rfl (fun ls hl => ?_)
          refine lv_goto (tgt := 4) hx hb dX3_runs_26 (by decide) ?_
          exact ih4 (x1) ((x2 + 1)) S H locs ls hP hS (lv_sub hl [1, 2, 0] rfl) hf
        · have hf := (if_neg c10).symm.trans hf
          refine lv_iinc (v := (x1 + 1)) (lv' := [(1, .int (x1 + 1)), (0, .ref (ad 5)), (2, .int x2)]) hx hb dX3_runs_20 hl (k := 1) rfl rfl (by decide) rfl (fun ls hl => ?_)
          refine lv_iinc (v := (x2 + 1)) (lv' := [(2, .int (x2 + 1)), (1, .int (x1 + 1)), (0, .ref (ad 5))]) hx hb dX3_runs_23 hl (k := 2) rfl rfl (by decide) rfl (fun ls hl => ?_)
          refine lv_goto (tgt := 4) hx hb dX3_runs_26 (by decide) ?_
          exact ih4 ((x1 + 1)) ((x2 + 1)) S H locs ls hP hS (lv_sub hl [2, 1, 0] rfl) hf
  unfold fX3_runs at hf
  suffices hG : ∀ (H : Heap) (locs : List Loc), va_P D vwCl (wX cy ad S) H → va_S A s.heap H locs → W p l e (headSpec wsX3_runs { frames := 4, cells := 0, slots := 0, locals := 84 }).room s m args below meth c H locs 0 0 (MQ below (QcI D A r (wX cy ad S)) args s 0 0 A) (F0 m 0 ls []) by exact hG s.heap [] hP va_S.rf
  clear hP hS
  intro H locs hP hS
  refine lv_iconst (v := 0) hx hb dX3_runs_0 (by decide) ?_
  refine lv_istore_n (lv' := [(1, .int 0), (0, .ref (ad 5))]) hx hb dX3_runs_1 rfl hl (by decide) rfl (fun ls hl => ?_)
  refine lv_iconst (v := 0) hx hb dX3_runs_2 (by decide) ?_
  refine lv_istore_n (lv' := [(2, .int 0), (1, .int 0), (0, .ref (ad 5))]) hx hb dX3_runs_3 rfl hl (by decide) rfl (fun ls hl => ?_)
  exact K4  FU (0) (0) S H locs ls hP hS (lv_sub hl [2, 1, 0] rfl) hf

def bX0_setsSureOfOne_4  (k4 : Int32 × Int32 × XS → Option Int32) (x1 : Int32) (x2 : Int32) (S : XS) : Option Int32 := (if (xi S 5) ≤ x2 then (some x1) else (ob1 (fX0_sureSet x2 S) (fun r8 => (if (fJ6_bitCount_0f7a4 r8) = 1 then (k4 ((x1 + 1), (x2 + 1), S)) else (k4 (x1, (x2 + 1), S))))))
def fX0_setsSureOfOne  (S : XS) : Option Int32 := (lp (fun k q => bX0_setsSureOfOne_4  k q.1 q.2.1 q.2.2) FU (0, 0, S))
set_option maxHeartbeats 4000000 in
set_option maxRecDepth 100000 in
theorem okX0_setsSureOfOne (l : Launch) (D : va_G) (cy : Nat → ClassId) (ad : Nat → Nat) (A : Nat → Prop) (hD : ∀ S, va_D A (wX cy ad S))  (S : XS) (r : Int32) (hf : fX0_setsSureOfOne  S = some r) : MI l yX0_setsSureOfOne wsX0_setsSureOfOne { frames := 3, cells := 0, slots := 0, locals := 63 } D cy A (wX cy ad S) [.ref (ad 7)] r (wX cy ad S) := by
  refine Met.ofW (cc := cX0_setsSureOfOne) (maxL := 3) (ret := (some .int)) (by decide) rfl ?_
  intro p e s m args below meth c s₁ B hml hv
  obtain ⟨ha, hP, hK⟩ := hv
  have hx := B.exec
  have hb := B.bytes
  have hr := B.returns
  have hts := atoms_spec (ws := wsX0_setsSureOfOne) B.pre
  have hown : s.vm.findClass RX0 = some m.cls := findClass_of_methodNamed B.named
  have hlocks := B.notSynchronized
  have hS : va_S A s.heap s.heap [] := va_S.rf
  obtain ⟨ls, hl, he0⟩ := ent (m := m) ha (n := 3) (Nat.le_of_ble_eq_true rfl)
  refine W.eq he0 ?_
  have hl : lv_has ls 3 [(0, .ref (ad 7))] := hl
  have K4 : ∀ (n : Nat), ∀ (x1 : Int32) (x2 : Int32) (S : XS) (H : Heap) (locs : List Loc) (ls : Array Slot), va_P D vwCl (wX cy ad S) H → va_S A s.heap H locs → lv_has ls 3 [(0, .ref (ad 7)), (1, .int x1), (2, .int x2)] → lp (fun k q => bX0_setsSureOfOne_4  k q.1 q.2.1 q.2.2) n (x1, x2, S) = some r → W p l e (headSpec wsX0_setsSureOfOne { frames := 3, cells := 0, slots := 0, locals := 63 }).room s m args below meth c H locs 0 0 (MQ below (QcI D A r (wX cy ad S)) args s 0 0 A) (F0 m 4 ls []) := by
    intro  n
    induction n with
    | zero =>
      intro x1 x2 S H locs ls hP hS hl hf
      cases hf
    | succ n ih4 =>
      intro x1 x2 S H locs ls hP hS hl hf
      have hf : bX0_setsSureOfOne_4  (lp (fun k q => bX0_setsSureOfOne_4  k q.1 q.2.1 q.2.2) n) x1 x2 S = some r := hf
      generalize lp (fun k q => bX0_setsSureOfOne_4  k q.1 q.2.1 q.2.2) n = k4 at hf ih4
      unfold bX0_setsSureOfOne_4 at hf
      refine lv_iload_n hx hb dX0_setsSureOfOne_4 rfl (lv_at hl 2 rfl) ?_
      refine lv_aload_n hx hb dX0_setsSureOfOne_5 rfl (lv_at hl 0 rfl) ?_
      refine gfX0_8 hx hb hts (fun _ h => List.mem_cons_of_mem _ (List.mem_append_right _ h)) hown hK hP (hts (Cond.fieldLink RX0 38 "WhoSpeaks$Chain" "count" "I") (List.mem_of_getElem? (i := 1) rfl)) dX0_setsSureOfOne_6 ?_
      refine lv_icmp_ge (tgt := 33) hx hb dX0_setsSureOfOne_9 (by decide) (fun c7 => ?_) (fun c7 => ?_)
      · have hf := (if_pos c7).symm.trans hf
        refine lv_iload_n hx hb dX0_setsSureOfOne_33 rfl (lv_at hl 1 rfl) ?_
        have he := Option.some.inj hf
        exact rI hx hb hr hP hS he hlocks dX0_setsSureOfOne_34
      · have hf := (if_neg c7).symm.trans hf
        refine lv_aload_n hx hb dX0_setsSureOfOne_12 rfl (lv_at hl 0 rfl) ?_
        refine lv_iload_n hx hb dX0_setsSureOfOne_13 rfl (lv_at hl 2 rfl) ?_
        obtain ⟨r8, h9, hf⟩ := ob1_some hf
        refine kVi (As := [.int x2]) (rest := []) ⟨hx, hb, hml, hown, hts⟩ (okX0_sureSet l D cy ad A hD x2 S r8 h9) (cwV 1 hts gX0_setsSureOfOne_X0_sureSet rfl rfl rfl (by decide +kernel) ⟨Nat.le_of_ble_eq_true rfl, Nat.le_of_ble_eq_true rfl⟩) hK hP hS (va_recv hK.1 hP (ci := 0) (q := (RX0, TX0, 9)) rfl (atX7 cy ad S)) rfl hl.1 rfl (Nat.le_of_ble_eq_true rfl) dX0_setsSureOfOne_14 (fun H locs hP hS => ?_)
        refine kSi (As := [.int r8]) (rest := []) ⟨hx, hb, hml, hown, hts⟩ (okJ6_bitCount_0f7a4 l D cy A (wX cy ad S) r8 _ rfl) (va_cwS 1 hts gX0_setsSureOfOne_J6_bitCount_0f7a4 rfl rfl rfl (by decide +kernel) ⟨Nat.le_of_ble_eq_true rfl, Nat.le_of_ble_eq_true rfl⟩) hK hP hS rfl hl.1 rfl (Nat.le_of_ble_eq_true rfl) dX0_setsSureOfOne_17 (fun H locs hP hS => ?_)
        refine lv_iconst (v := 1) hx hb dX0_setsSureOfOne_20 (by decide) ?_
        refine lv_icmp_ne (tgt := 27) hx hb dX0_setsSureOfOne_21 (by decide) (fun c11 => ?_) (fun c11 => ?_)
        · have hf := (if_neg c11).symm.trans hf
          refine lv_iinc (v := (x2 + 1)) (lv' := [(2, .int (x2 + 1)), (0, .ref (ad 7)), (1, .int x1)]) hx hb dX0_setsSureOfOne_27 hl (k := 2) rfl rfl (by decide) rfl (fun ls hl => ?_)
          refine lv_goto (tgt := 4) hx hb dX0_setsSureOfOne_30 (by decide) ?_
          exact ih4 (x1) ((x2 + 1)) S H locs ls hP hS (lv_sub hl [1, 2, 0] rfl) hf
        · have hf := (if_pos c11).symm.trans hf
          refine lv_iinc (v := (x1 + 1)) (lv' := [(1, .int (x1 + 1)), (0, .ref (ad 7)), (2, .int x2)]) hx hb dX0_setsSureOfOne_24 hl (k := 1) rfl rfl (by decide) rfl (fun ls hl => ?_)
          refine lv_iinc (v := (x2 + 1)) (lv' := [(2, .int (x2 + 1)), (1, .int (x1 + 1)), (0, .ref (ad 7))]) hx hb dX0_setsSureOfOne_27 hl (k := 2) rfl rfl (by decide) rfl (fun ls hl => ?_)
          refine lv_goto (tgt := 4) hx hb dX0_setsSureOfOne_30 (by decide) ?_
          exact ih4 ((x1 + 1)) ((x2 + 1)) S H locs ls hP hS (lv_sub hl [2, 1, 0] rfl) hf
  unfold fX0_setsSureOfOne at hf
  suffices hG : ∀ (H : Heap) (locs : List Loc), va_P D vwCl (wX cy ad S) H → va_S A s.heap H locs → W p l e (headSpec wsX0_setsSureOfOne { frames := 3, cells := 0, slots := 0, locals := 63 }).room s m args below meth c H locs 0 0 (MQ below (QcI D A r (wX cy ad S)) args s 0 0 A) (F0 m 0 ls []) by exact hG s.heap [] hP va_S.rf
  clear hP hS
  intro H locs hP hS
  refine lv_iconst (v := 0) hx hb dX0_setsSureOfOne_0 (by decide) ?_
  refine lv_istore_n (lv' := [(1, .int 0), (0, .ref (ad 7))]) hx hb dX0_setsSureOfOne_1 rfl hl (by decide) rfl (fun ls hl => ?_)
  refine lv_iconst (v := 0) hx hb dX0_setsSureOfOne_2 (by decide) ?_
  refine lv_istore_n (lv' := [(2, .int 0), (1, .int 0), (0, .ref (ad 7))]) hx hb dX0_setsSureOfOne_3 rfl hl (by decide) rfl (fun ls hl => ?_)
  exact K4  FU (0) (0) S H locs ls hP hS (lv_sub hl [2, 1, 0] rfl) hf

def bX3_hints_4  (k4 : Int32 × Int32 × XS → Option Int32) (x1 : Int32) (x2 : Int32) (S : XS) : Option Int32 := (if (xi S 4) ≤ x2 then (some x1) else (ob1 (fX3_paragraphAt x2 S) (fun r8 => (ob1 (fX1_hintSet r8 S) (fun r10 => (if r10 = (-9) then (k4 (x1, (x2 + 1), S)) else (k4 ((x1 + 1), (x2 + 1), S))))))))
def fX3_hints  (S : XS) : Option Int32 := (lp (fun k q => bX3_hints_4  k q.1 q.2.1 q.2.2) FU (0, 0, S))
set_option maxHeartbeats 4000000 in
set_option maxRecDepth 100000 in
theorem okX3_hints (l : Launch) (D : va_G) (cy : Nat → ClassId) (ad : Nat → Nat) (A : Nat → Prop) (hD : ∀ S, va_D A (wX cy ad S))  (S : XS) (r : Int32) (hf : fX3_hints  S = some r) : MI l yX3_hints wsX3_hints { frames := 2, cells := 0, slots := 0, locals := 42 } D cy A (wX cy ad S) [.ref (ad 5)] r (wX cy ad S) := by
  refine Met.ofW (cc := cX3_hints) (maxL := 3) (ret := (some .int)) (by decide) rfl ?_
  intro p e s m args below meth c s₁ B hml hv
  obtain ⟨ha, hP, hK⟩ := hv
  have hx := B.exec
  have hb := B.bytes
  have hr := B.returns
  have hts := atoms_spec (ws := wsX3_hints) B.pre
  have hown : s.vm.findClass RX3 = some m.cls := findClass_of_methodNamed B.named
  have hlocks := B.notSynchronized
  have hS : va_S A s.heap s.heap [] := va_S.rf
  obtain ⟨ls, hl, he0⟩ := ent (m := m) ha (n := 3) (Nat.le_of_ble_eq_true rfl)
  refine W.eq he0 ?_
  have hl : lv_has ls 3 [(0, .ref (ad 5))] := hl
  have K4 : ∀ (n : Nat), ∀ (x1 : Int32) (x2 : Int32) (S : XS) (H : Heap) (locs : List Loc) (ls : Array Slot), va_P D vwCl (wX cy ad S) H → va_S A s.heap H locs → lv_has ls 3 [(0, .ref (ad 5)), (1, .int x1), (2, .int x2)] → lp (fun k q => bX3_hints_4  k q.1 q.2.1 q.2.2) n (x1, x2, S) = some r → W p l e (headSpec wsX3_hints { frames := 2, cells := 0, slots := 0, locals := 42 }).room s m args below meth c H locs 0 0 (MQ below (QcI D A r (wX cy ad S)) args s 0 0 A) (F0 m 4 ls []) := by
    intro  n
    induction n with
    | zero =>
      intro x1 x2 S H locs ls hP hS hl hf
      cases hf
    | succ n ih4 =>
      intro x1 x2 S H locs ls hP hS hl hf
      have hf : bX3_hints_4  (lp (fun k q => bX3_hints_4  k q.1 q.2.1 q.2.2) n) x1 x2 S = some r := hf
      generalize lp (fun k q => bX3_hints_4  k q.1 q.2.1 q.2.2) n = k4 at hf ih4
      unfold bX3_hints_4 at hf
      refine lv_iload_n hx hb dX3_hints_4 rfl (lv_at hl 2 rfl) ?_
      refine lv_aload_n hx hb dX3_hints_5 rfl (lv_at hl 0 rfl) ?_
      refine gfX3_2 hx hb hts (fun _ h => List.mem_cons_of_mem _ (List.mem_append_left _ (List.mem_append_right _ h))) hown hK hP (hts (Cond.fieldLink RX3 22 "WhoSpeaks$Story" "count" "I") (List.mem_of_getElem? (i := 1) rfl)) dX3_hints_6 ?_
      refine lv_icmp_ge (tgt := 34) hx hb dX3_hints_9 (by decide) (fun c7 => ?_) (fun c7 => ?_)
      · have hf := (if_pos c7).symm.trans hf
        refine lv_iload_n hx hb dX3_hints_34 rfl (lv_at hl 1 rfl) ?_
        have he := Option.some.inj hf
        exact rI hx hb hr hP hS he hlocks dX3_hints_35
      · have hf := (if_neg c7).symm.trans hf
        refine lv_aload_n hx hb dX3_hints_12 rfl (lv_at hl 0 rfl) ?_
        refine lv_iload_n hx hb dX3_hints_13 rfl (lv_at hl 2 rfl) ?_
        obtain ⟨r8, h9, hf⟩ := ob1_some hf
        refine kVr (As := [.int x2]) (rest := []) ⟨hx, hb, hml, hown, hts⟩ (okX3_paragraphAt l D cy ad A hD x2 S r8 h9) (cwV 1 hts gX3_hints_X3_paragraphAt rfl rfl rfl (by decide +kernel) ⟨Nat.le_of_ble_eq_true rfl, Nat.le_of_ble_eq_true rfl⟩) hK hP hS (va_recv hK.1 hP (ci := 3) (q := (RX3, TX3, 3)) rfl (atX5 cy ad S)) rfl hl.1 rfl (Nat.le_of_ble_eq_true rfl) dX3_hints_14 (fun H locs hP hS => ?_)
        obtain ⟨r10, h11, hf⟩ := ob1_some hf
        refine kVi (As := []) (rest := []) ⟨hx, hb, hml, hown, hts⟩ (okX1_hintSet l D cy ad A hD r8 S r10 h11) (cwV 0 hts gX3_hints_X1_hintSet rfl rfl rfl (by decide +kernel) ⟨Nat.le_of_ble_eq_true rfl, Nat.le_of_ble_eq_true rfl⟩) hK hP hS (va_recv hK.1 hP (ci := 1) (q := (RX1, TX1, 14)) rfl (atP0 cy ad S r8 (ck_no h11).1)) rfl hl.1 rfl (Nat.le_of_ble_eq_true rfl) dX3_hints_17 (fun H locs hP hS => ?_)
        refine lv_bipush (v := (-9)) hx hb dX3_hints_20 (by decide) ?_
        refine lv_icmp_eq (tgt := 28) hx hb dX3_hints_22 (by decide) (fun c12 => ?_) (fun c12 => ?_)
        · have hf := (if_pos c12).symm.trans hf
          refine lv_iinc (v := (x2 + 1)) (lv' := [(2, .int (x2 + 1)), (0, .ref (ad 5)), (1, .int x1)]) hx hb dX3_hints_28 hl (k := 2) rfl rfl (by decide) rfl (fun ls hl => ?_)
          refine lv_goto (tgt := 4) hx hb dX3_hints_31 (by decide) ?_
          exact ih4 (x1) ((x2 + 1)) S H locs ls hP hS (lv_sub hl [1, 2, 0] rfl) hf
        · have hf := (if_neg c12).symm.trans hf
          refine lv_iinc (v := (x1 + 1)) (lv' := [(1, .int (x1 + 1)), (0, .ref (ad 5)), (2, .int x2)]) hx hb dX3_hints_25 hl (k := 1) rfl rfl (by decide) rfl (fun ls hl => ?_)
          refine lv_iinc (v := (x2 + 1)) (lv' := [(2, .int (x2 + 1)), (1, .int (x1 + 1)), (0, .ref (ad 5))]) hx hb dX3_hints_28 hl (k := 2) rfl rfl (by decide) rfl (fun ls hl => ?_)
          refine lv_goto (tgt := 4) hx hb dX3_hints_31 (by decide) ?_
          exact ih4 ((x1 + 1)) ((x2 + 1)) S H locs ls hP hS (lv_sub hl [2, 1, 0] rfl) hf
  unfold fX3_hints at hf
  suffices hG : ∀ (H : Heap) (locs : List Loc), va_P D vwCl (wX cy ad S) H → va_S A s.heap H locs → W p l e (headSpec wsX3_hints { frames := 2, cells := 0, slots := 0, locals := 42 }).room s m args below meth c H locs 0 0 (MQ below (QcI D A r (wX cy ad S)) args s 0 0 A) (F0 m 0 ls []) by exact hG s.heap [] hP va_S.rf
  clear hP hS
  intro H locs hP hS
  refine lv_iconst (v := 0) hx hb dX3_hints_0 (by decide) ?_
  refine lv_istore_n (lv' := [(1, .int 0), (0, .ref (ad 5))]) hx hb dX3_hints_1 rfl hl (by decide) rfl (fun ls hl => ?_)
  refine lv_iconst (v := 0) hx hb dX3_hints_2 (by decide) ?_
  refine lv_istore_n (lv' := [(2, .int 0), (1, .int 0), (0, .ref (ad 5))]) hx hb dX3_hints_3 rfl hl (by decide) rfl (fun ls hl => ?_)
  exact K4  FU (0) (0) S H locs ls hP hS (lv_sub hl [2, 1, 0] rfl) hf

def fX5_many (p0 : Int32) (S : XS) : Option (Int32 × XS) := (if p0 = 0 then (some ((fJ6_bitCount_0f7a4 (fX2_thereSet  S)), S)) else (if p0 = 1 then (some ((fX3_length  S), S)) else (if p0 = 2 then (ob1 (fX3_speaking  S) (fun r7 => (some (r7, S)))) else (if p0 = 3 then (ob1 (fX3_runs  S) (fun r10 => (some (r10, S)))) else (if p0 = 4 then (ob1 (fX5_fillChain  S) (fun S14 => (ob2 (fX0_countWays  S14) (fun r15 S17 => (ob1 (fX0_setsSureOfOne  S17) (fun r18 => (some (r18, S17)))))))) else (if p0 = 5 then (ob1 (fX3_hints  S) (fun r21 => (some (r21, S)))) else (if p0 = 6 then (some ((fX4_length  S), S)) else (if p0 = 7 then (some ((xi S 0), S)) else (if p0 = 8 then (some ((xi S 1), S)) else (some ((-2), S)))))))))))
set_option maxHeartbeats 4000000 in
set_option maxRecDepth 100000 in
theorem okX5_many (l : Launch) (D : va_G) (cy : Nat → ClassId) (ad : Nat → Nat) (A : Nat → Prop) (hD : ∀ S, va_D A (wX cy ad S)) (p0 : Int32) (S : XS) (r : Int32) (S' : XS) (hf : fX5_many p0 S = some (r, S')) : MI l yX5_many wsX5_many { frames := 6, cells := 0, slots := 0, locals := 146 } D cy A (wX cy ad S) [.ref (ad 0), .int p0] r (wX cy ad S') := by
  refine Met.ofW (cc := cX5_many) (maxL := 2) (ret := (some .int)) (by decide) rfl ?_
  intro p e s m args below meth c s₁ B hml hv
  obtain ⟨ha, hP, hK⟩ := hv
  have hx := B.exec
  have hb := B.bytes
  have hr := B.returns
  have hts := atoms_spec (ws := wsX5_many) B.pre
  have hown : s.vm.findClass RX5 = some m.cls := findClass_of_methodNamed B.named
  have hlocks := B.notSynchronized
  have hS : va_S A s.heap s.heap [] := va_S.rf
  obtain ⟨ls, hl, he0⟩ := ent (m := m) ha (n := 2) (Nat.le_of_ble_eq_true rfl)
  refine W.eq he0 ?_
  have hl : lv_has ls 2 [(0, .ref (ad 0)), (1, .int p0)] := hl
  unfold fX5_many at hf
  suffices hG : ∀ (H : Heap) (locs : List Loc), va_P D vwCl (wX cy ad S) H → va_S A s.heap H locs → W p l e (headSpec wsX5_many { frames := 6, cells := 0, slots := 0, locals := 146 }).room s m args below meth c H locs 0 0 (MQ below (QcI D A r (wX cy ad S')) args s 0 0 A) (F0 m 0 ls []) by exact hG s.heap [] hP va_S.rf
  clear hP hS
  intro H locs hP hS
  refine lv_iload_n hx hb dX5_many_0 rfl (lv_at hl 1 rfl) ?_
  by_cases c1 : p0 = 0
  · have hf := (if_pos c1).symm.trans hf
    refine lv_tableIn (off := 51) (tgt := 52) hx hb dX5_many_1 (by rw [c1]; decide) (by rw [c1]; decide) (by rw [c1]; rfl) (by decide) ?_
    refine lv_aload_n hx hb dX5_many_52 rfl (lv_at hl 0 rfl) ?_
    refine gfX5_0 hx hb hts (fun _ h => List.mem_cons_of_mem _ (List.mem_append_left _ (List.mem_append_left _ (List.mem_append_left _ (List.mem_append_left _ (List.mem_append_left _ (List.mem_append_right _ h))))))) hown hK hP (hts (Cond.fieldLink RX5 12 "WhoSpeaks" "people" "LWhoSpeaks$People;") (List.mem_of_getElem? (i := 1) rfl)) dX5_many_53 ?_
    refine kVi (As := []) (rest := []) ⟨hx, hb, hml, hown, hts⟩ (okX2_thereSet l D cy ad A hD  S _ rfl) (cwV 0 hts gX5_many_X2_thereSet rfl rfl rfl (by decide +kernel) ⟨Nat.le_of_ble_eq_true rfl, Nat.le_of_ble_eq_true rfl⟩) hK hP hS (va_recv hK.1 hP (ci := 2) (q := (RX2, TX2, 2)) rfl (atX1 cy ad S)) rfl hl.1 rfl (Nat.le_of_ble_eq_true rfl) dX5_many_56 (fun H locs hP hS => ?_)
    refine kSi (As := [.int (fX2_thereSet  S)]) (rest := []) ⟨hx, hb, hml, hown, hts⟩ (okJ6_bitCount_0f7a4 l D cy A (wX cy ad S) (fX2_thereSet  S) _ rfl) (va_cwS 1 hts gX5_many_J6_bitCount_0f7a4 rfl rfl rfl (by decide +kernel) ⟨Nat.le_of_ble_eq_true rfl, Nat.le_of_ble_eq_true rfl⟩) hK hP hS rfl hl.1 rfl (Nat.le_of_ble_eq_true rfl) dX5_many_59 (fun H locs hP hS => ?_)
    obtain ⟨he, hS9⟩ := Prod.mk.inj (Option.some.inj hf)
    subst hS9
    exact rI hx hb hr hP hS he hlocks dX5_many_62
  · have hf := (if_neg c1).symm.trans hf
    by_cases c4 : p0 = 1
    · have hf := (if_pos c4).symm.trans hf
      refine lv_tableIn (off := 62) (tgt := 63) hx hb dX5_many_1 (by rw [c4]; decide) (by rw [c4]; decide) (by rw [c4]; rfl) (by decide) ?_
      refine lv_aload_n hx hb dX5_many_63 rfl (lv_at hl 0 rfl) ?_
      refine gfX5_2 hx hb hts (fun _ h => List.mem_cons_of_mem _ (List.mem_append_left _ (List.mem_append_left _ (List.mem_append_left _ (List.mem_append_left _ (List.mem_append_left _ (List.mem_append_right _ h))))))) hown hK hP (hts (Cond.fieldLink RX5 26 "WhoSpeaks" "story" "LWhoSpeaks$Story;") (List.mem_of_getElem? (i := 2) rfl)) dX5_many_64 ?_
      refine kVi (As := []) (rest := []) ⟨hx, hb, hml, hown, hts⟩ (okX3_length l D cy ad A hD  S _ rfl) (cwV 0 hts gX5_many_X3_length rfl rfl rfl (by decide +kernel) ⟨Nat.le_of_ble_eq_true rfl, Nat.le_of_ble_eq_true rfl⟩) hK hP hS (va_recv hK.1 hP (ci := 3) (q := (RX3, TX3, 3)) rfl (atX5 cy ad S)) rfl hl.1 rfl (Nat.le_of_ble_eq_true rfl) dX5_many_67 (fun H locs hP hS => ?_)
      obtain ⟨he, hS9⟩ := Prod.mk.inj (Option.some.inj hf)
      subst hS9
      exact rI hx hb hr hP hS he hlocks dX5_many_70
    · have hf := (if_neg c4).symm.trans hf
      by_cases c6 : p0 = 2
      · have hf := (if_pos c6).symm.trans hf
        refine lv_tableIn (off := 70) (tgt := 71) hx hb dX5_many_1 (by rw [c6]; decide) (by rw [c6]; decide) (by rw [c6]; rfl) (by decide) ?_
        refine lv_aload_n hx hb dX5_many_71 rfl (lv_at hl 0 rfl) ?_
        refine gfX5_2 hx hb hts (fun _ h => List.mem_cons_of_mem _ (List.mem_append_left _ (List.mem_append_left _ (List.mem_append_left _ (List.mem_append_left _ (List.mem_append_left _ (List.mem_append_right _ h))))))) hown hK hP (hts (Cond.fieldLink RX5 26 "WhoSpeaks" "story" "LWhoSpeaks$Story;") (List.mem_of_getElem? (i := 2) rfl)) dX5_many_72 ?_
        obtain ⟨r7, h8, hf⟩ := ob1_some hf
        refine kVi (As := []) (rest := []) ⟨hx, hb, hml, hown, hts⟩ (okX3_speaking l D cy ad A hD  S r7 h8) (cwV 0 hts gX5_many_X3_speaking rfl rfl rfl (by decide +kernel) ⟨Nat.le_of_ble_eq_true rfl, Nat.le_of_ble_eq_true rfl⟩) hK hP hS (va_recv hK.1 hP (ci := 3) (q := (RX3, TX3, 3)) rfl (atX5 cy ad S)) rfl hl.1 rfl (Nat.le_of_ble_eq_true rfl) dX5_many_75 (fun H locs hP hS => ?_)
        obtain ⟨he, hS9⟩ := Prod.mk.inj (Option.some.inj hf)
        subst hS9
        exact rI hx hb hr hP hS he hlocks dX5_many_78
      · have hf := (if_neg c6).symm.trans hf
        by_cases c9 : p0 = 3
        · have hf := (if_pos c9).symm.trans hf
          refine lv_tableIn (off := 78) (tgt := 79) hx hb dX5_many_1 (by rw [c9]; decide) (by rw [c9]; decide) (by rw [c9]; rfl) (by decide) ?_
          refine lv_aload_n hx hb dX5_many_79 rfl (lv_at hl 0 rfl) ?_
          refine gfX5_2 hx hb hts (fun _ h => List.mem_cons_of_mem _ (List.mem_append_left _ (List.mem_append_left _ (List.mem_append_left _ (List.mem_append_left _ (List.mem_append_left _ (List.mem_append_right _ h))))))) hown hK hP (hts (Cond.fieldLink RX5 26 "WhoSpeaks" "story" "LWhoSpeaks$Story;") (List.mem_of_getElem? (i := 2) rfl)) dX5_many_80 ?_
          obtain ⟨r10, h11, hf⟩ := ob1_some hf
          refine kVi (As := []) (rest := []) ⟨hx, hb, hml, hown, hts⟩ (okX3_runs l D cy ad A hD  S r10 h11) (cwV 0 hts gX5_many_X3_runs rfl rfl rfl (by decide +kernel) ⟨Nat.le_of_ble_eq_true rfl, Nat.le_of_ble_eq_true rfl⟩) hK hP hS (va_recv hK.1 hP (ci := 3) (q := (RX3, TX3, 3)) rfl (atX5 cy ad S)) rfl hl.1 rfl (Nat.le_of_ble_eq_true rfl) dX5_many_83 (fun H locs hP hS => ?_)
          obtain ⟨he, hS9⟩ := Prod.mk.inj (Option.some.inj hf)
          subst hS9
          exact rI hx hb hr hP hS he hlocks dX5_many_86
        · have hf := (if_neg c9).symm.trans hf
          by_cases c12 : p0 = 4
          · have hf := (if_pos c12).symm.trans hf
            refine lv_tableIn (off := 86) (tgt := 87) hx hb dX5_many_1 (by rw [c12]; decide) (by rw [c12]; decide) (by rw [c12]; rfl) (by decide) ?_
            refine lv_aload_n hx hb dX5_many_87 rfl (lv_at hl 0 rfl) ?_
            obtain ⟨S14, h13, hf⟩ := ob1_some hf
            refine kVv (As := []) (rest := []) ⟨hx, hb, hml, hown, hts⟩ (okX5_fillChain l D cy ad A hD  S S14 h13) (cwV 0 hts gX5_many_X5_fillChain rfl rfl rfl (by decide +kernel) ⟨Nat.le_of_ble_eq_true rfl, Nat.le_of_ble_eq_true rfl⟩) hK hP hS (va_recv hK.1 hP (ci := 5) (q := (RX5, TX5, 9)) rfl (atX0 cy ad S)) rfl hl.1 rfl (Nat.le_of_ble_eq_true rfl) dX5_many_88 (fun H locs hP hS => ?_)
            refine lv_aload_n hx hb dX5_many_91 rfl (lv_at hl 0 rfl) ?_
            refine gfX5_3 hx hb hts (fun _ h => List.mem_cons_of_mem _ (List.mem_append_left _ (List.mem_append_left _ (List.mem_append_left _ (List.mem_append_left _ (List.mem_append_left _ (List.mem_append_right _ h))))))) hown hK hP (hts (Cond.fieldLink RX5 33 "WhoSpeaks" "chain" "LWhoSpeaks$Chain;") (List.mem_of_getElem? (i := 3) rfl)) dX5_many_92 ?_
            obtain ⟨r15, S17, h16, hf⟩ := ob2_some hf
            refine kVl (As := []) (rest := []) ⟨hx, hb, hml, hown, hts⟩ (okX0_countWays l D cy ad A hD  S14 r15 S17 h16) (cwV 0 hts gX5_many_X0_countWays rfl rfl rfl (by decide +kernel) ⟨Nat.le_of_ble_eq_true rfl, Nat.le_of_ble_eq_true rfl⟩) hK hP hS (va_recv hK.1 hP (ci := 0) (q := (RX0, TX0, 9)) rfl (atX7 cy ad S14)) rfl hl.1 rfl (Nat.le_of_ble_eq_true rfl) dX5_many_95 (fun H locs hP hS => ?_)
            refine lv_pop2_2 hx hb dX5_many_98 rfl ?_
            refine lv_aload_n hx hb dX5_many_99 rfl (lv_at hl 0 rfl) ?_
            refine gfX5_3 hx hb hts (fun _ h => List.mem_cons_of_mem _ (List.mem_append_left _ (List.mem_append_left _ (List.mem_append_left _ (List.mem_append_left _ (List.mem_append_left _ (List.mem_append_right _ h))))))) hown hK hP (hts (Cond.fieldLink RX5 33 "WhoSpeaks" "chain" "LWhoSpeaks$Chain;") (List.mem_of_getElem? (i := 3) rfl)) dX5_many_100 ?_
            obtain ⟨r18, h19, hf⟩ := ob1_some hf
            refine kVi (As := []) (rest := []) ⟨hx, hb, hml, hown, hts⟩ (okX0_setsSureOfOne l D cy ad A hD  S17 r18 h19) (cwV 0 hts gX5_many_X0_setsSureOfOne rfl rfl rfl (by decide +kernel) ⟨Nat.le_of_ble_eq_true rfl, Nat.le_of_ble_eq_true rfl⟩) hK hP hS (va_recv hK.1 hP (ci := 0) (q := (RX0, TX0, 9)) rfl (atX7 cy ad S17)) rfl hl.1 rfl (Nat.le_of_ble_eq_true rfl) dX5_many_103 (fun H locs hP hS => ?_)
            obtain ⟨he, hS9⟩ := Prod.mk.inj (Option.some.inj hf)
            subst hS9
            exact rI hx hb hr hP hS he hlocks dX5_many_106
          · have hf := (if_neg c12).symm.trans hf
            by_cases c20 : p0 = 5
            · have hf := (if_pos c20).symm.trans hf
              refine lv_tableIn (off := 106) (tgt := 107) hx hb dX5_many_1 (by rw [c20]; decide) (by rw [c20]; decide) (by rw [c20]; rfl) (by decide) ?_
              refine lv_aload_n hx hb dX5_many_107 rfl (lv_at hl 0 rfl) ?_
              refine gfX5_2 hx hb hts (fun _ h => List.mem_cons_of_mem _ (List.mem_append_left _ (List.mem_append_left _ (List.mem_append_left _ (List.mem_append_left _ (List.mem_append_left _ (List.mem_append_right _ h))))))) hown hK hP (hts (Cond.fieldLink RX5 26 "WhoSpeaks" "story" "LWhoSpeaks$Story;") (List.mem_of_getElem? (i := 2) rfl)) dX5_many_108 ?_
              obtain ⟨r21, h22, hf⟩ := ob1_some hf
              refine kVi (As := []) (rest := []) ⟨hx, hb, hml, hown, hts⟩ (okX3_hints l D cy ad A hD  S r21 h22) (cwV 0 hts gX5_many_X3_hints rfl rfl rfl (by decide +kernel) ⟨Nat.le_of_ble_eq_true rfl, Nat.le_of_ble_eq_true rfl⟩) hK hP hS (va_recv hK.1 hP (ci := 3) (q := (RX3, TX3, 3)) rfl (atX5 cy ad S)) rfl hl.1 rfl (Nat.le_of_ble_eq_true rfl) dX5_many_111 (fun H locs hP hS => ?_)
              obtain ⟨he, hS9⟩ := Prod.mk.inj (Option.some.inj hf)
              subst hS9
              exact rI hx hb hr hP hS he hlocks dX5_many_114
            · have hf := (if_neg c20).symm.trans hf
              by_cases c23 : p0 = 6
              · have hf := (if_pos c23).symm.trans hf
                refine lv_tableIn (off := 114) (tgt := 115) hx hb dX5_many_1 (by rw [c23]; decide) (by rw [c23]; decide) (by rw [c23]; rfl) (by decide) ?_
                refine lv_aload_n hx hb dX5_many_115 rfl (lv_at hl 0 rfl) ?_
                refine gfX5_1 hx hb hts (fun _ h => List.mem_cons_of_mem _ (List.mem_append_left _ (List.mem_append_left _ (List.mem_append_left _ (List.mem_append_left _ (List.mem_append_left _ (List.mem_append_right _ h))))))) hown hK hP (hts (Cond.fieldLink RX5 19 "WhoSpeaks" "tape" "LWhoSpeaks$Tape;") (List.mem_of_getElem? (i := 4) rfl)) dX5_many_116 ?_
                refine kVi (As := []) (rest := []) ⟨hx, hb, hml, hown, hts⟩ (okX4_length l D cy ad A hD  S _ rfl) (cwV 0 hts gX5_many_X4_length rfl rfl rfl (by decide +kernel) ⟨Nat.le_of_ble_eq_true rfl, Nat.le_of_ble_eq_true rfl⟩) hK hP hS (va_recv hK.1 hP (ci := 4) (q := (RX4, TX4, 2)) rfl (atX3 cy ad S)) rfl hl.1 rfl (Nat.le_of_ble_eq_true rfl) dX5_many_119 (fun H locs hP hS => ?_)
                obtain ⟨he, hS9⟩ := Prod.mk.inj (Option.some.inj hf)
                subst hS9
                exact rI hx hb hr hP hS he hlocks dX5_many_122
              · have hf := (if_neg c23).symm.trans hf
                by_cases c25 : p0 = 7
                · have hf := (if_pos c25).symm.trans hf
                  refine lv_tableIn (off := 122) (tgt := 123) hx hb dX5_many_1 (by rw [c25]; decide) (by rw [c25]; decide) (by rw [c25]; rfl) (by decide) ?_
                  refine lv_aload_n hx hb dX5_many_123 rfl (lv_at hl 0 rfl) ?_
                  refine gfX5_7 hx hb hts (fun _ h => List.mem_cons_of_mem _ (List.mem_append_left _ (List.mem_append_left _ (List.mem_append_left _ (List.mem_append_left _ (List.mem_append_left _ (List.mem_append_right _ h))))))) hown hK hP (hts (Cond.fieldLink RX5 47 "WhoSpeaks" "hereSet" "I") (List.mem_of_getElem? (i := 5) rfl)) dX5_many_124 ?_
                  obtain ⟨he, hS9⟩ := Prod.mk.inj (Option.some.inj hf)
                  subst hS9
                  exact rI hx hb hr hP hS he hlocks dX5_many_127
                · have hf := (if_neg c25).symm.trans hf
                  by_cases c26 : p0 = 8
                  · have hf := (if_pos c26).symm.trans hf
                    refine lv_tableIn (off := 127) (tgt := 128) hx hb dX5_many_1 (by rw [c26]; decide) (by rw [c26]; decide) (by rw [c26]; rfl) (by decide) ?_
                    refine lv_aload_n hx hb dX5_many_128 rfl (lv_at hl 0 rfl) ?_
                    refine gfX5_8 hx hb hts (fun _ h => List.mem_cons_of_mem _ (List.mem_append_left _ (List.mem_append_left _ (List.mem_append_left _ (List.mem_append_left _ (List.mem_append_left _ (List.mem_append_right _ h))))))) hown hK hP (hts (Cond.fieldLink RX5 51 "WhoSpeaks" "ruleSet" "I") (List.mem_of_getElem? (i := 6) rfl)) dX5_many_129 ?_
                    obtain ⟨he, hS9⟩ := Prod.mk.inj (Option.some.inj hf)
                    subst hS9
                    exact rI hx hb hr hP hS he hlocks dX5_many_132
                  · have hf := (if_neg c26).symm.trans hf
                    refine lv_tableOut (tgt := 133) hx hb dX5_many_1 (by have n0 := ne_toInt c1; have z0 : (0 : Int32).toInt = 0 := rfl; have n1 := ne_toInt c4; have z1 : (1 : Int32).toInt = 1 := rfl; have n2 := ne_toInt c6; have z2 : (2 : Int32).toInt = 2 := rfl; have n3 := ne_toInt c9; have z3 : (3 : Int32).toInt = 3 := rfl; have n4 := ne_toInt c12; have z4 : (4 : Int32).toInt = 4 := rfl; have n5 := ne_toInt c20; have z5 : (5 : Int32).toInt = 5 := rfl; have n6 := ne_toInt c23; have z6 : (6 : Int32).toInt = 6 := rfl; have n7 := ne_toInt c25; have z7 : (7 : Int32).toInt = 7 := rfl; have n8 := ne_toInt c26; have z8 : (8 : Int32).toInt = 8 := rfl; omega) (by decide) ?_
                    refine lv_bipush (v := (-2)) hx hb dX5_many_133 (by decide) ?_
                    obtain ⟨he, hS9⟩ := Prod.mk.inj (Option.some.inj hf)
                    subst hS9
                    exact rI hx hb hr hP hS he hlocks dX5_many_135
