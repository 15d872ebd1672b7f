def bX6_aheadOf_70 (k4 : Int32 × Int32 × Int32 × MS → Option Int32) (x1 : Int32) (x2 : Int32) (x3 : Int32) (s0 : Bool) (S : MS) : Option Int32 := (ob1 (fX6_isThere x3 S) (fun r61 => (if (bi r61) = 0 then (bnd ((x2 + 0)) (fun y64 => (k4 (x1, y64, (x3 + 1), S)))) else (if (bi s0) = 0 then (bnd ((x2 + 0)) (fun y66 => (k4 (x1, y66, (x3 + 1), S)))) else (bnd ((x2 + 1)) (fun y67 => (k4 (x1, y67, (x3 + 1), S))))))))
def bX6_aheadOf_4  (k4 : Int32 × Int32 × Int32 × MS → Option Int32) (x1 : Int32) (x2 : Int32) (x3 : Int32) (S : MS) : Option Int32 := (if 8 ≤ x3 then (some x2) else (ob1 (fX6_manyHad x3 true S) (fun r69 => (ob1 (fX6_manyHad x1 true S) (fun r71 => (bnd ((r69 - r71)) (fun y73 => (ob1 (fX6_manyHad x3 false S) (fun r74 => (ob1 (fX6_manyHad x1 false S) (fun r76 => (bnd ((r74 - r76)) (fun y78 => (if 0 < y73 then (bX6_aheadOf_70 k4 (x1) (x2) (x3) (true) S) else (if y73 = 0 then (if 0 < y78 then (bX6_aheadOf_70 k4 (x1) (x2) (x3) (true) S) else (if y78 = 0 then (if x1 ≤ x3 then (bX6_aheadOf_70 k4 (x1) (x2) (x3) (false) S) else (bX6_aheadOf_70 k4 (x1) (x2) (x3) (true) S)) else (bX6_aheadOf_70 k4 (x1) (x2) (x3) (false) S))) else (bX6_aheadOf_70 k4 (x1) (x2) (x3) (false) S))))))))))))))))
def fX6_aheadOf (p0 : Int32) (S : MS) : Option Int32 := (lp (fun k q => bX6_aheadOf_4  k q.1 q.2.1 q.2.2.1 q.2.2.2) FU (p0, 0, 0, S))
set_option maxHeartbeats 4000000 in
set_option maxRecDepth 100000 in
theorem okX6_aheadOf (l : Launch) (D : va_G) (cy : Nat → ClassId) (ad : Nat → Nat) (A : Nat → Prop) (hD : ∀ S, va_D A (wM cy ad S)) (p0 : Int32) (S : MS) (r : Int32) (hf : fX6_aheadOf p0 S = some r) : MI l yX6_aheadOf wsX6_aheadOf { frames := 2, cells := 0, slots := 0, locals := 46 } D cy A (wM cy ad S) [.ref (ad 0), .int p0] r (wM cy ad S) := by
  refine Met.ofW (cc := cX6_aheadOf) (maxL := 7) (ret := (some .int)) (by decide) rfl ?_
  intro p e s m args below meth c s₁ B hml hv
  obtain ⟨ha, hP, hK⟩ := hv
  have hx := B.exec
  have hb := B.bytes
  have hr := B.returns
  have hts := atoms_spec (ws := wsX6_aheadOf) B.pre
  have hown : s.vm.findClass RX6 = some m.cls := findClass_of_methodNamed B.named
  have hlocks := B.notSynchronized
  have hS : va_S A s.heap s.heap [] := va_S.rf
  obtain ⟨ls, hl, he0⟩ := ent (m := m) ha (n := 7) (Nat.le_of_ble_eq_true rfl)
  refine W.eq he0 ?_
  have hl : lv_has ls 7 [(0, .ref (ad 0)), (1, .int p0)] := hl
  have K70 : ∀ (k4 : Int32 × Int32 × Int32 × MS → Option Int32), (∀ (x1 : Int32) (x2 : Int32) (x3 : Int32) (S : MS) (H : Heap) (locs : List Loc) (ls : Array Slot), va_P D vwCl (wM cy ad S) H → va_S A s.heap H locs → lv_has ls 7 [(0, .ref (ad 0)), (1, .int x1), (2, .int x2), (3, .int x3)] → k4 (x1, x2, x3, S) = some r → W p l e (headSpec wsX6_aheadOf { frames := 2, cells := 0, slots := 0, locals := 46 }).room s m args below meth c H locs 0 0 (MQ below (QcI D A r (wM cy ad S)) args s 0 0 A) (F0 m 4 ls [])) → ∀ (x1 : Int32) (x2 : Int32) (x3 : Int32) (s0 : Bool) (S : MS) (H : Heap) (locs : List Loc) (ls : Array Slot), va_P D vwCl (wM cy ad S) H → va_S A s.heap H locs → lv_has ls 7 [(0, .ref (ad 0)), (1, .int x1), (2, .int x2), (3, .int x3)] → bX6_aheadOf_70 k4 x1 x2 x3 s0 S = some r → W p l e (headSpec wsX6_aheadOf { frames := 2, cells := 0, slots := 0, locals := 46 }).room s m args below meth c H locs 0 0 (MQ below (QcI D A r (wM cy ad S)) args s 0 0 A) (F0 m 70 ls [.int (bi s0)]) := by
    intro k4 ih4 x1 x2 x3 s0 S H locs ls hP hS hl hf
    unfold bX6_aheadOf_70 at hf
    refine lv_istore (lv' := [(6, .int (bi s0)), (0, .ref (ad 0)), (1, .int x1), (2, .int x2), (3, .int x3)]) hx hb dX6_aheadOf_70 hl (by decide) rfl (fun ls hl => ?_)
    refine lv_iload_n hx hb dX6_aheadOf_72 rfl (lv_at hl 3 rfl) ?_
    refine lv_aload_n hx hb dX6_aheadOf_73 rfl (lv_at hl 1 rfl) ?_
    refine lv_iload_n hx hb dX6_aheadOf_74 rfl (lv_at hl 4 rfl) ?_
    obtain ⟨r61, h62, hf⟩ := ob1_some hf
    refine kVi (As := [.int x3]) (rest := [.int x2]) ⟨hx, hb, hml, hown, hts⟩ (okX6_isThere l D cy ad A hD x3 S r61 h62) (cwV 1 hts gX6_aheadOf_X6_isThere rfl rfl rfl (by decide +kernel) ⟨Nat.le_of_ble_eq_true rfl, Nat.le_of_ble_eq_true rfl⟩) hK hP hS (va_recv hK.1 hP (ci := 6) (q := (RX6, TX6, 21)) rfl (atM0 cy ad S)) rfl hl.1 rfl (Nat.le_of_ble_eq_true rfl) dX6_aheadOf_75 (fun H locs hP hS => ?_)
    refine lv_if_eq (tgt := 90) hx hb dX6_aheadOf_78 (by decide) (fun c63 => ?_) (fun c63 => ?_)
    · have hf := (if_pos c63).symm.trans hf
      refine lv_iconst (v := 0) hx hb dX6_aheadOf_90 (by decide) ?_
      refine lv_iadd hx hb dX6_aheadOf_91 ?_
      refine lv_topi (fun y64 ey64 => ?_)
      have hf := bnd_of ey64 hf
      refine lv_istore_n (lv' := [(2, .int y64), (6, .int (bi s0)), (0, .ref (ad 0)), (1, .int x1), (3, .int x3)]) hx hb dX6_aheadOf_92 rfl hl (by decide) rfl (fun ls hl => ?_)
      refine lv_iinc (v := (x3 + 1)) (lv' := [(3, .int (x3 + 1)), (2, .int y64), (6, .int (bi s0)), (0, .ref (ad 0)), (1, .int x1)]) hx hb dX6_aheadOf_93 hl (k := 4) rfl rfl (by decide) rfl (fun ls hl => ?_)
      refine lv_goto (tgt := 4) hx hb dX6_aheadOf_96 (by decide) ?_
      exact ih4 (x1) (y64) ((x3 + 1)) S H locs ls hP hS (lv_sub hl [3, 4, 1, 0] rfl) hf
    · have hf := (if_neg c63).symm.trans hf
      refine lv_iload hx hb dX6_aheadOf_81 (lv_at hl 0 rfl) ?_
      refine lv_if_eq (tgt := 90) hx hb dX6_aheadOf_83 (by decide) (fun c65 => ?_) (fun c65 => ?_)
      · have hf := (if_pos c65).symm.trans hf
        refine lv_iconst (v := 0) hx hb dX6_aheadOf_90 (by decide) ?_
        refine lv_iadd hx hb dX6_aheadOf_91 ?_
        refine lv_topi (fun y66 ey66 => ?_)
        have hf := bnd_of ey66 hf
        refine lv_istore_n (lv' := [(2, .int y66), (6, .int (bi s0)), (0, .ref (ad 0)), (1, .int x1), (3, .int x3)]) hx hb dX6_aheadOf_92 rfl hl (by decide) rfl (fun ls hl => ?_)
        refine lv_iinc (v := (x3 + 1)) (lv' := [(3, .int (x3 + 1)), (2, .int y66), (6, .int (bi s0)), (0, .ref (ad 0)), (1, .int x1)]) hx hb dX6_aheadOf_93 hl (k := 4) rfl rfl (by decide) rfl (fun ls hl => ?_)
        refine lv_goto (tgt := 4) hx hb dX6_aheadOf_96 (by decide) ?_
        exact ih4 (x1) (y66) ((x3 + 1)) S H locs ls hP hS (lv_sub hl [3, 4, 1, 0] rfl) hf
      · have hf := (if_neg c65).symm.trans hf
        refine lv_iconst (v := 1) hx hb dX6_aheadOf_86 (by decide) ?_
        refine lv_goto (tgt := 91) hx hb dX6_aheadOf_87 (by decide) ?_
        refine lv_iadd hx hb dX6_aheadOf_91 ?_
        refine lv_topi (fun y67 ey67 => ?_)
        have hf := bnd_of ey67 hf
        refine lv_istore_n (lv' := [(2, .int y67), (6, .int (bi s0)), (0, .ref (ad 0)), (1, .int x1), (3, .int x3)]) hx hb dX6_aheadOf_92 rfl hl (by decide) rfl (fun ls hl => ?_)
        refine lv_iinc (v := (x3 + 1)) (lv' := [(3, .int (x3 + 1)), (2, .int y67), (6, .int (bi s0)), (0, .ref (ad 0)), (1, .int x1)]) hx hb dX6_aheadOf_93 hl (k := 4) rfl rfl (by decide) rfl (fun ls hl => ?_)
        refine lv_goto (tgt := 4) hx hb dX6_aheadOf_96 (by decide) ?_
        exact ih4 (x1) (y67) ((x3 + 1)) S H locs ls hP hS (lv_sub hl [3, 4, 1, 0] rfl) hf
  have K4 : ∀ (n : Nat), ∀ (x1 : Int32) (x2 : Int32) (x3 : Int32) (S : MS) (H : Heap) (locs : List Loc) (ls : Array Slot), va_P D vwCl (wM cy ad S) H → va_S A s.heap H locs → lv_has ls 7 [(0, .ref (ad 0)), (1, .int x1), (2, .int x2), (3, .int x3)] → lp (fun k q => bX6_aheadOf_4  k q.1 q.2.1 q.2.2.1 q.2.2.2) n (x1, x2, x3, S) = some r → W p l e (headSpec wsX6_aheadOf { frames := 2, cells := 0, slots := 0, locals := 46 }).room s m args below meth c H locs 0 0 (MQ below (QcI D A r (wM cy ad S)) args s 0 0 A) (F0 m 4 ls []) := by
    intro  n
    induction n with
    | zero =>
      intro x1 x2 x3 S H locs ls hP hS hl hf
      cases hf
    | succ n ih4 =>
      intro x1 x2 x3 S H locs ls hP hS hl hf
      have hf : bX6_aheadOf_4  (lp (fun k q => bX6_aheadOf_4  k q.1 q.2.1 q.2.2.1 q.2.2.2) n) x1 x2 x3 S = some r := hf
      generalize lp (fun k q => bX6_aheadOf_4  k q.1 q.2.1 q.2.2.1 q.2.2.2) n = k4 at hf ih4
      unfold bX6_aheadOf_4 at hf
      refine lv_iload_n hx hb dX6_aheadOf_4 rfl (lv_at hl 3 rfl) ?_
      refine lv_bipush (v := 8) hx hb dX6_aheadOf_5 (by decide) ?_
      refine lv_icmp_ge (tgt := 99) hx hb dX6_aheadOf_7 (by decide) (fun c68 => ?_) (fun c68 => ?_)
      · have hf := (if_pos c68).symm.trans hf
        refine lv_iload_n hx hb dX6_aheadOf_99 rfl (lv_at hl 2 rfl) ?_
        have he := Option.some.inj hf
        exact rI hx hb hr hP hS he hlocks dX6_aheadOf_100
      · have hf := (if_neg c68).symm.trans hf
        refine lv_aload_n hx hb dX6_aheadOf_10 rfl (lv_at hl 0 rfl) ?_
        refine lv_iload_n hx hb dX6_aheadOf_11 rfl (lv_at hl 3 rfl) ?_
        refine lv_iconst (v := 1) hx hb dX6_aheadOf_12 (by decide) ?_
        obtain ⟨r69, h70, hf⟩ := ob1_some hf
        refine kVi (As := [.int x3, .int 1]) (rest := []) ⟨hx, hb, hml, hown, hts⟩ (okX6_manyHad l D cy ad A hD x3 true S r69 h70) (cwV 2 hts gX6_aheadOf_X6_manyHad rfl rfl rfl (by decide +kernel) ⟨Nat.le_of_ble_eq_true rfl, Nat.le_of_ble_eq_true rfl⟩) hK hP hS (va_recv hK.1 hP (ci := 6) (q := (RX6, TX6, 21)) rfl (atM0 cy ad S)) rfl hl.1 rfl (Nat.le_of_ble_eq_true rfl) dX6_aheadOf_13 (fun H locs hP hS => ?_)
        refine lv_aload_n hx hb dX6_aheadOf_16 rfl (lv_at hl 0 rfl) ?_
        refine lv_iload_n hx hb dX6_aheadOf_17 rfl (lv_at hl 1 rfl) ?_
        refine lv_iconst (v := 1) hx hb dX6_aheadOf_18 (by decide) ?_
        obtain ⟨r71, h72, hf⟩ := ob1_some hf
        refine kVi (As := [.int x1, .int 1]) (rest := [.int r69]) ⟨hx, hb, hml, hown, hts⟩ (okX6_manyHad l D cy ad A hD x1 true S r71 h72) (cwV 2 hts gX6_aheadOf_X6_manyHad rfl rfl rfl (by decide +kernel) ⟨Nat.le_of_ble_eq_true rfl, Nat.le_of_ble_eq_true rfl⟩) hK hP hS (va_recv hK.1 hP (ci := 6) (q := (RX6, TX6, 21)) rfl (atM0 cy ad S)) rfl hl.1 rfl (Nat.le_of_ble_eq_true rfl) dX6_aheadOf_19 (fun H locs hP hS => ?_)
        refine lv_isub hx hb dX6_aheadOf_22 ?_
        refine lv_topi (fun y73 ey73 => ?_)
        have hf := bnd_of ey73 hf
        refine lv_istore (lv' := [(4, .int y73), (0, .ref (ad 0)), (1, .int x1), (2, .int x2), (3, .int x3)]) hx hb dX6_aheadOf_23 hl (by decide) rfl (fun ls hl => ?_)
        refine lv_aload_n hx hb dX6_aheadOf_25 rfl (lv_at hl 1 rfl) ?_
        refine lv_iload_n hx hb dX6_aheadOf_26 rfl (lv_at hl 4 rfl) ?_
        refine lv_iconst (v := 0) hx hb dX6_aheadOf_27 (by decide) ?_
        obtain ⟨r74, h75, hf⟩ := ob1_some hf
        refine kVi (As := [.int x3, .int 0]) (rest := []) ⟨hx, hb, hml, hown, hts⟩ (okX6_manyHad l D cy ad A hD x3 false S r74 h75) (cwV 2 hts gX6_aheadOf_X6_manyHad rfl rfl rfl (by decide +kernel) ⟨Nat.le_of_ble_eq_true rfl, Nat.le_of_ble_eq_true rfl⟩) hK hP hS (va_recv hK.1 hP (ci := 6) (q := (RX6, TX6, 21)) rfl (atM0 cy ad S)) rfl hl.1 rfl (Nat.le_of_ble_eq_true rfl) dX6_aheadOf_28 (fun H locs hP hS => ?_)
        refine lv_aload_n hx hb dX6_aheadOf_31 rfl (lv_at hl 1 rfl) ?_
        refine lv_iload_n hx hb dX6_aheadOf_32 rfl (lv_at hl 2 rfl) ?_
        refine lv_iconst (v := 0) hx hb dX6_aheadOf_33 (by decide) ?_
        obtain ⟨r76, h77, hf⟩ := ob1_some hf
        refine kVi (As := [.int x1, .int 0]) (rest := [.int r74]) ⟨hx, hb, hml, hown, hts⟩ (okX6_manyHad l D cy ad A hD x1 false S r76 h77) (cwV 2 hts gX6_aheadOf_X6_manyHad rfl rfl rfl (by decide +kernel) ⟨Nat.le_of_ble_eq_true rfl, Nat.le_of_ble_eq_true rfl⟩) hK hP hS (va_recv hK.1 hP (ci := 6) (q := (RX6, TX6, 21)) rfl (atM0 cy ad S)) rfl hl.1 rfl (Nat.le_of_ble_eq_true rfl) dX6_aheadOf_34 (fun H locs hP hS => ?_)
        refine lv_isub hx hb dX6_aheadOf_37 ?_
        refine lv_topi (fun y78 ey78 => ?_)
        have hf := bnd_of ey78 hf
        refine lv_istore (lv' := [(5, .int y78), (4, .int y73), (0, .ref (ad 0)), (1, .int x1), (2, .int x2), (3, .int x3)]) hx hb dX6_aheadOf_38 hl (by decide) rfl (fun ls hl => ?_)
        refine lv_iload hx hb dX6_aheadOf_40 (lv_at hl 1 rfl) ?_
        refine lv_if_gt (tgt := 65) hx hb dX6_aheadOf_42 (by decide) (fun c79 => ?_) (fun c79 => ?_)
        · have hf := (if_pos c79).symm.trans hf
          refine lv_iconst (v := 1) hx hb dX6_aheadOf_65 (by decide) ?_
          refine lv_goto (tgt := 70) hx hb dX6_aheadOf_66 (by decide) ?_
          exact K70 k4 ih4 (x1) (x2) (x3) (true) S H locs ls hP hS (lv_sub hl [2, 3, 4, 5] rfl) hf
        · have hf := (if_neg c79).symm.trans hf
          refine lv_iload hx hb dX6_aheadOf_45 (lv_at hl 1 rfl) ?_
          refine lv_if_ne (tgt := 69) hx hb dX6_aheadOf_47 (by decide) (fun c80 => ?_) (fun c80 => ?_)
          · have hf := (if_neg c80).symm.trans hf
            refine lv_iconst (v := 0) hx hb dX6_aheadOf_69 (by decide) ?_
            exact K70 k4 ih4 (x1) (x2) (x3) (false) S H locs ls hP hS (lv_sub hl [2, 3, 4, 5] rfl) hf
          · have hf := (if_pos c80).symm.trans hf
            refine lv_iload hx hb dX6_aheadOf_50 (lv_at hl 0 rfl) ?_
            refine lv_if_gt (tgt := 65) hx hb dX6_aheadOf_52 (by decide) (fun c81 => ?_) (fun c81 => ?_)
            · have hf := (if_pos c81).symm.trans hf
              refine lv_iconst (v := 1) hx hb dX6_aheadOf_65 (by decide) ?_
              refine lv_goto (tgt := 70) hx hb dX6_aheadOf_66 (by decide) ?_
              exact K70 k4 ih4 (x1) (x2) (x3) (true) S H locs ls hP hS (lv_sub hl [2, 3, 4, 5] rfl) hf
            · have hf := (if_neg c81).symm.trans hf
              refine lv_iload hx hb dX6_aheadOf_55 (lv_at hl 0 rfl) ?_
              refine lv_if_ne (tgt := 69) hx hb dX6_aheadOf_57 (by decide) (fun c82 => ?_) (fun c82 => ?_)
              · have hf := (if_neg c82).symm.trans hf
                refine lv_iconst (v := 0) hx hb dX6_aheadOf_69 (by decide) ?_
                exact K70 k4 ih4 (x1) (x2) (x3) (false) S H locs ls hP hS (lv_sub hl [2, 3, 4, 5] rfl) hf
              · have hf := (if_pos c82).symm.trans hf
                refine lv_iload_n hx hb dX6_aheadOf_60 rfl (lv_at hl 5 rfl) ?_
                refine lv_iload_n hx hb dX6_aheadOf_61 rfl (lv_at hl 3 rfl) ?_
                refine lv_icmp_ge (tgt := 69) hx hb dX6_aheadOf_62 (by decide) (fun c83 => ?_) (fun c83 => ?_)
                · have hf := (if_pos c83).symm.trans hf
                  refine lv_iconst (v := 0) hx hb dX6_aheadOf_69 (by decide) ?_
                  exact K70 k4 ih4 (x1) (x2) (x3) (false) S H locs ls hP hS (lv_sub hl [2, 3, 4, 5] rfl) hf
                · have hf := (if_neg c83).symm.trans hf
                  refine lv_iconst (v := 1) hx hb dX6_aheadOf_65 (by decide) ?_
                  refine lv_goto (tgt := 70) hx hb dX6_aheadOf_66 (by decide) ?_
                  exact K70 k4 ih4 (x1) (x2) (x3) (true) S H locs ls hP hS (lv_sub hl [2, 3, 4, 5] rfl) hf
  unfold fX6_aheadOf at hf
  suffices hG : ∀ (H : Heap) (locs : List Loc), va_P D vwCl (wM cy ad S) H → va_S A s.heap H locs → W p l e (headSpec wsX6_aheadOf { frames := 2, cells := 0, slots := 0, locals := 46 }).room s m args below meth c H locs 0 0 (MQ below (QcI D A r (wM cy ad S)) args s 0 0 A) (F0 m 0 ls []) by exact hG s.heap [] hP va_S.rf
  clear hP hS
  intro H locs hP hS
  refine lv_iconst (v := 0) hx hb dX6_aheadOf_0 (by decide) ?_
  refine lv_istore_n (lv' := [(2, .int 0), (0, .ref (ad 0)), (1, .int p0)]) hx hb dX6_aheadOf_1 rfl hl (by decide) rfl (fun ls hl => ?_)
  refine lv_iconst (v := 0) hx hb dX6_aheadOf_2 (by decide) ?_
  refine lv_istore_n (lv' := [(3, .int 0), (2, .int 0), (0, .ref (ad 0)), (1, .int p0)]) hx hb dX6_aheadOf_3 rfl hl (by decide) rfl (fun ls hl => ?_)
  exact K4  FU (p0) (0) (0) S H locs ls hP hS (lv_sub hl [2, 3, 1, 0] rfl) hf

def bX6_rank_19  (k19 : Int32 × Int32 × MS → Option (Int32 × MS)) (x1 : Int32) (x2 : Int32) (S : MS) : Option (Int32 × MS) := (if 8 ≤ x2 then (some ((-9), S)) else (ob1 (fX6_isThere x2 S) (fun r15 => (if (bi r15) = 0 then (k19 (x1, (x2 + 1), S)) else (ob1 (fX6_aheadOf x2 S) (fun r18 => (if r18 = x1 then (some (x2, S)) else (k19 (x1, (x2 + 1), S)))))))))
def fX6_rank (p0 : Int32) (S : MS) : Option (Int32 × MS) := (if (bi (fX6_within p0 0 7)) = 0 then (some ((-2), S)) else (ob1 (fX6_findSure  S) (fun S24 => (lp (fun k q => bX6_rank_19  k q.1 q.2.1 q.2.2) FU (p0, 0, S24)))))
set_option maxHeartbeats 4000000 in
set_option maxRecDepth 100000 in
theorem okX6_rank (l : Launch) (D : va_G) (cy : Nat → ClassId) (ad : Nat → Nat) (A : Nat → Prop) (hD : ∀ S, va_D A (wM cy ad S)) (p0 : Int32) (S : MS) (r : Int32) (S' : MS) (hf : fX6_rank p0 S = some (r, S')) : MI l yX6_rank wsX6_rank { frames := 9, cells := 0, slots := 0, locals := 199 } D cy A (wM cy ad S) [.ref (ad 0), .int p0] r (wM cy ad S') := by
  refine Met.ofW (cc := cX6_rank) (maxL := 3) (ret := (some .int)) (by decide) rfl ?_
  intro p e s m args below meth c s₁ B hml hv
  obtain ⟨ha, hP, hK⟩ := hv
  have hx := B.exec
  have hb := B.bytes
  have hr := B.returns
  have hts := atoms_spec (ws := wsX6_rank) B.pre
  have hown : s.vm.findClass RX6 = some m.cls := findClass_of_methodNamed B.named
  have hlocks := B.notSynchronized
  have hS : va_S A s.heap s.heap [] := va_S.rf
  obtain ⟨ls, hl, he0⟩ := ent (m := m) ha (n := 3) (Nat.le_of_ble_eq_true rfl)
  refine W.eq he0 ?_
  have hl : lv_has ls 3 [(0, .ref (ad 0)), (1, .int p0)] := hl
  have K19 : ∀ (n : Nat), ∀ (x1 : Int32) (x2 : Int32) (S : MS) (H : Heap) (locs : List Loc) (ls : Array Slot), va_P D vwCl (wM cy ad S) H → va_S A s.heap H locs → lv_has ls 3 [(0, .ref (ad 0)), (1, .int x1), (2, .int x2)] → lp (fun k q => bX6_rank_19  k q.1 q.2.1 q.2.2) n (x1, x2, S) = some (r, S') → W p l e (headSpec wsX6_rank { frames := 9, cells := 0, slots := 0, locals := 199 }).room s m args below meth c H locs 0 0 (MQ below (QcI D A r (wM cy ad S')) args s 0 0 A) (F0 m 19 ls []) := by
    intro  n
    induction n with
    | zero =>
      intro x1 x2 S H locs ls hP hS hl hf
      cases hf
    | succ n ih19 =>
      intro x1 x2 S H locs ls hP hS hl hf
      have hf : bX6_rank_19  (lp (fun k q => bX6_rank_19  k q.1 q.2.1 q.2.2) n) x1 x2 S = some (r, S') := hf
      generalize lp (fun k q => bX6_rank_19  k q.1 q.2.1 q.2.2) n = k19 at hf ih19
      unfold bX6_rank_19 at hf
      refine lv_iload_n hx hb dX6_rank_19 rfl (lv_at hl 2 rfl) ?_
      refine lv_bipush (v := 8) hx hb dX6_rank_20 (by decide) ?_
      refine lv_icmp_ge (tgt := 50) hx hb dX6_rank_22 (by decide) (fun c14 => ?_) (fun c14 => ?_)
      · have hf := (if_pos c14).symm.trans hf
        refine lv_bipush (v := (-9)) hx hb dX6_rank_50 (by decide) ?_
        obtain ⟨he, hS9⟩ := Prod.mk.inj (Option.some.inj hf)
        subst hS9
        exact rI hx hb hr hP hS he hlocks dX6_rank_52
      · have hf := (if_neg c14).symm.trans hf
        refine lv_aload_n hx hb dX6_rank_25 rfl (lv_at hl 0 rfl) ?_
        refine lv_iload_n hx hb dX6_rank_26 rfl (lv_at hl 2 rfl) ?_
        obtain ⟨r15, h16, hf⟩ := ob1_some hf
        refine kVi (As := [.int x2]) (rest := []) ⟨hx, hb, hml, hown, hts⟩ (okX6_isThere l D cy ad A hD x2 S r15 h16) (cwV 1 hts gX6_rank_X6_isThere rfl rfl rfl (by decide +kernel) ⟨Nat.le_of_ble_eq_true rfl, Nat.le_of_ble_eq_true rfl⟩) hK hP hS (va_recv hK.1 hP (ci := 6) (q := (RX6, TX6, 21)) rfl (atM0 cy ad S)) rfl hl.1 rfl (Nat.le_of_ble_eq_true rfl) dX6_rank_27 (fun H locs hP hS => ?_)
        refine lv_if_eq (tgt := 44) hx hb dX6_rank_30 (by decide) (fun c17 => ?_) (fun c17 => ?_)
        · have hf := (if_pos c17).symm.trans hf
          refine lv_iinc (v := (x2 + 1)) (lv' := [(2, .int (x2 + 1)), (0, .ref (ad 0)), (1, .int x1)]) hx hb dX6_rank_44 hl (k := 2) rfl rfl (by decide) rfl (fun ls hl => ?_)
          refine lv_goto (tgt := 19) hx hb dX6_rank_47 (by decide) ?_
          exact ih19 (x1) ((x2 + 1)) S H locs ls hP hS (lv_sub hl [1, 2, 0] rfl) hf
        · have hf := (if_neg c17).symm.trans hf
          refine lv_aload_n hx hb dX6_rank_33 rfl (lv_at hl 0 rfl) ?_
          refine lv_iload_n hx hb dX6_rank_34 rfl (lv_at hl 2 rfl) ?_
          obtain ⟨r18, h19, hf⟩ := ob1_some hf
          refine kVi (As := [.int x2]) (rest := []) ⟨hx, hb, hml, hown, hts⟩ (okX6_aheadOf l D cy ad A hD x2 S r18 h19) (cwV 1 hts gX6_rank_X6_aheadOf rfl rfl rfl (by decide +kernel) ⟨Nat.le_of_ble_eq_true rfl, Nat.le_of_ble_eq_true rfl⟩) hK hP hS (va_recv hK.1 hP (ci := 6) (q := (RX6, TX6, 21)) rfl (atM0 cy ad S)) rfl hl.1 rfl (Nat.le_of_ble_eq_true rfl) dX6_rank_35 (fun H locs hP hS => ?_)
          refine lv_iload_n hx hb dX6_rank_38 rfl (lv_at hl 1 rfl) ?_
          refine lv_icmp_ne (tgt := 44) hx hb dX6_rank_39 (by decide) (fun c20 => ?_) (fun c20 => ?_)
          · have hf := (if_neg c20).symm.trans hf
            refine lv_iinc (v := (x2 + 1)) (lv' := [(2, .int (x2 + 1)), (0, .ref (ad 0)), (1, .int x1)]) hx hb dX6_rank_44 hl (k := 2) rfl rfl (by decide) rfl (fun ls hl => ?_)
            refine lv_goto (tgt := 19) hx hb dX6_rank_47 (by decide) ?_
            exact ih19 (x1) ((x2 + 1)) S H locs ls hP hS (lv_sub hl [1, 2, 0] rfl) hf
          · have hf := (if_pos c20).symm.trans hf
            refine lv_iload_n hx hb dX6_rank_42 rfl (lv_at hl 2 rfl) ?_
            obtain ⟨he, hS9⟩ := Prod.mk.inj (Option.some.inj hf)
            subst hS9
            exact rI hx hb hr hP hS he hlocks dX6_rank_43
  unfold fX6_rank at hf
  suffices hG : ∀ (H : Heap) (locs : List Loc), va_P D vwCl (wM cy ad S) H → va_S A s.heap H locs → W p l e (headSpec wsX6_rank { frames := 9, cells := 0, slots := 0, locals := 199 }).room s m args below meth c H locs 0 0 (MQ below (QcI D A r (wM cy ad S')) args s 0 0 A) (F0 m 0 ls []) by exact hG s.heap [] hP va_S.rf
  clear hP hS
  intro H locs hP hS
  refine lv_iload_n hx hb dX6_rank_0 rfl (lv_at hl 1 rfl) ?_
  refine lv_iconst (v := 0) hx hb dX6_rank_1 (by decide) ?_
  refine lv_bipush (v := 7) hx hb dX6_rank_2 (by decide) ?_
  refine kSi (As := [.int p0, .int 0, .int 7]) (rest := []) ⟨hx, hb, hml, hown, hts⟩ (okX6_within l D cy A (wM cy ad S) p0 0 7 _ rfl) (va_cwS 3 hts gX6_rank_X6_within rfl rfl rfl (by decide +kernel) ⟨Nat.le_of_ble_eq_true rfl, Nat.le_of_ble_eq_true rfl⟩) hK hP hS rfl hl.1 rfl (Nat.le_of_ble_eq_true rfl) dX6_rank_4 (fun H locs hP hS => ?_)
  refine lv_if_ne (tgt := 13) hx hb dX6_rank_7 (by decide) (fun c22 => ?_) (fun c22 => ?_)
  · have hf := (if_neg c22).symm.trans hf
    refine lv_aload_n hx hb dX6_rank_13 rfl (lv_at hl 0 rfl) ?_
    obtain ⟨S24, h23, hf⟩ := ob1_some hf
    refine kVv (As := []) (rest := []) ⟨hx, hb, hml, hown, hts⟩ (okX6_findSure l D cy ad A hD  S S24 h23) (cwV 0 hts gX6_rank_X6_findSure rfl rfl rfl (by decide +kernel) ⟨Nat.le_of_ble_eq_true rfl, Nat.le_of_ble_eq_true rfl⟩) hK hP hS (va_recv hK.1 hP (ci := 6) (q := (RX6, TX6, 21)) rfl (atM0 cy ad S)) rfl hl.1 rfl (Nat.le_of_ble_eq_true rfl) dX6_rank_14 (fun H locs hP hS => ?_)
    refine lv_iconst (v := 0) hx hb dX6_rank_17 (by decide) ?_
    refine lv_istore_n (lv' := [(2, .int 0), (0, .ref (ad 0)), (1, .int p0)]) hx hb dX6_rank_18 rfl hl (by decide) rfl (fun ls hl => ?_)
    exact K19  FU (p0) (0) S24 H locs ls hP hS (lv_sub hl [1, 2, 0] rfl) hf
  · have hf := (if_pos c22).symm.trans hf
    refine lv_bipush (v := (-2)) hx hb dX6_rank_10 (by decide) ?_
    obtain ⟨he, hS9⟩ := Prod.mk.inj (Option.some.inj hf)
    subst hS9
    exact rI hx hb hr hP hS he hlocks dX6_rank_12

def bX6_writes_82 (k48 : Int32 × Int32 × Int32 × MS → Option (Int32 × MS)) (x1 : Int32) (x2 : Int32) (x3 : Int32) (S : MS) : Option (Int32 × MS) := (ck x2 16 (bnd (maW S 16 x2.toNatClampNeg (65 + x3)) (fun S56 => (k48 (x1, (x2 + 1), (x3 + 1), S56)))))
def bX6_writes_48  (k48 : Int32 × Int32 × Int32 × MS → Option (Int32 × MS)) (x1 : Int32) (x2 : Int32) (x3 : Int32) (S : MS) : Option (Int32 × MS) := (if 8 ≤ x3 then (some (x2, S)) else (ck x1 16 (if (bi (fX6_has (ma S 10 x1.toNatClampNeg) x3)) = 0 then (k48 (x1, x2, (x3 + 1), S)) else (if x2 ≤ 0 then (bX6_writes_82 k48 (x1) (x2) (x3) S) else (ck x2 16 (bnd (maW S 16 x2.toNatClampNeg 47) (fun S63 => (bX6_writes_82 k48 (x1) ((x2 + 1)) (x3) S63))))))))
def bX6_writes_41  (s2 : Int32) (S : MS) : Option (Int32 × MS) := (ck (0 : Int32) 16 (bnd (maW S 16 (0 : Int32).toNatClampNeg s2) (fun S65 => (some (1, S65)))))
def bX6_writes_21  (x1 : Int32) (S : MS) : Option (Int32 × MS) := (ob1 (fX6_speaks x1 S) (fun r67 => (if (bi r67) = 0 then (bX6_writes_41  (46) S) else (bX6_writes_41  (33) S))))
def fX6_writes (p0 : Int32) (S : MS) : Option (Int32 × MS) := (ob1 (fX6_findNarrowed  S) (fun S71 => (ob1 (fX6_speaks p0 S71) (fun r72 => (if (bi r72) = 0 then (bX6_writes_21  (p0) S71) else (ck p0 16 (if (ma S71 10 p0.toNatClampNeg) = 0 then (bX6_writes_21  (p0) S71) else (lp (fun k q => bX6_writes_48  k q.1 q.2.1 q.2.2.1 q.2.2.2) FU (p0, 0, 0, S71)))))))))
set_option maxHeartbeats 4000000 in
set_option maxRecDepth 100000 in
theorem okX6_writes (l : Launch) (D : va_G) (cy : Nat → ClassId) (ad : Nat → Nat) (A : Nat → Prop) (hD : ∀ S, va_D A (wM cy ad S)) (p0 : Int32) (S : MS) (r : Int32) (S' : MS) (hf : fX6_writes p0 S = some (r, S')) : MI l yX6_writes wsX6_writes { frames := 8, cells := 0, slots := 0, locals := 178 } D cy A (wM cy ad S) [.ref (ad 0), .int p0] r (wM cy ad S') := by
  refine Met.ofW (cc := cX6_writes) (maxL := 4) (ret := (some .int)) (by decide) rfl ?_
  intro p e s m args below meth c s₁ B hml hv
  obtain ⟨ha, hP, hK⟩ := hv
  have hx := B.exec
  have hb := B.bytes
  have hr := B.returns
  have hts := atoms_spec (ws := wsX6_writes) B.pre
  have hown : s.vm.findClass RX6 = some m.cls := findClass_of_methodNamed B.named
  have hlocks := B.notSynchronized
  have hS : va_S A s.heap s.heap [] := va_S.rf
  obtain ⟨ls, hl, he0⟩ := ent (m := m) ha (n := 4) (Nat.le_of_ble_eq_true rfl)
  refine W.eq he0 ?_
  have hl : lv_has ls 4 [(0, .ref (ad 0)), (1, .int p0)] := hl
  have K82 : ∀ (k48 : Int32 × Int32 × Int32 × MS → Option (Int32 × MS)), (∀ (x1 : Int32) (x2 : Int32) (x3 : Int32) (S : MS) (H : Heap) (locs : List Loc) (ls : Array Slot), va_P D vwCl (wM cy ad S) H → va_S A s.heap H locs → lv_has ls 4 [(0, .ref (ad 0)), (1, .int x1), (2, .int x2), (3, .int x3)] → k48 (x1, x2, x3, S) = some (r, S') → W p l e (headSpec wsX6_writes { frames := 8, cells := 0, slots := 0, locals := 178 }).room s m args below meth c H locs 0 0 (MQ below (QcI D A r (wM cy ad S')) args s 0 0 A) (F0 m 48 ls [])) → ∀ (x1 : Int32) (x2 : Int32) (x3 : Int32) (S : MS) (H : Heap) (locs : List Loc) (ls : Array Slot), va_P D vwCl (wM cy ad S) H → va_S A s.heap H locs → lv_has ls 4 [(0, .ref (ad 0)), (1, .int x1), (2, .int x2), (3, .int x3)] → bX6_writes_82 k48 x1 x2 x3 S = some (r, S') → W p l e (headSpec wsX6_writes { frames := 8, cells := 0, slots := 0, locals := 178 }).room s m args below meth c H locs 0 0 (MQ below (QcI D A r (wM cy ad S')) args s 0 0 A) (F0 m 82 ls []) := by
    intro k48 ih48 x1 x2 x3 S H locs ls hP hS hl hf
    unfold bX6_writes_82 at hf
    refine lv_aload_n hx hb dX6_writes_82 rfl (lv_at hl 0 rfl) ?_
    refine gfX6_20 hx hb hts (fun _ h => List.mem_cons_of_mem _ (List.mem_append_right _ h)) hown hK hP (hts (Cond.fieldLink RX6 61 "WhoSpeaksModel" "text" "[I") (List.mem_of_getElem? (i := 2) rfl)) dX6_writes_83 ?_
    refine lv_iload_n hx hb dX6_writes_86 rfl (lv_at hl 2 rfl) ?_
    refine lv_bipush (v := 65) hx hb dX6_writes_87 (by decide) ?_
    refine lv_iload_n hx hb dX6_writes_89 rfl (lv_at hl 3 rfl) ?_
    refine lv_iadd hx hb dX6_writes_90 ?_
    obtain ⟨c57, hf⟩ := ck_some hf
    refine asM16 (v := (65 + x3)) hx hb hK hP hD hS c57 dX6_writes_91 (fun S56 eS56 H locs hP hS => ?_)
    have hf := bnd_of eS56 hf
    refine lv_iinc (v := (x2 + 1)) (lv' := [(2, .int (x2 + 1)), (0, .ref (ad 0)), (1, .int x1), (3, .int x3)]) hx hb dX6_writes_92 hl (k := 2) rfl rfl (by decide) rfl (fun ls hl => ?_)
    refine lv_iinc (v := (x3 + 1)) (lv' := [(3, .int (x3 + 1)), (2, .int (x2 + 1)), (0, .ref (ad 0)), (1, .int x1)]) hx hb dX6_writes_95 hl (k := 3) rfl rfl (by decide) rfl (fun ls hl => ?_)
    refine lv_goto (tgt := 48) hx hb dX6_writes_98 (by decide) ?_
    exact ih48 (x1) ((x2 + 1)) ((x3 + 1)) S56 H locs ls hP hS (lv_sub hl [2, 3, 1, 0] rfl) hf
  have K48 : ∀ (n : Nat), ∀ (x1 : Int32) (x2 : Int32) (x3 : Int32) (S : MS) (H : Heap) (locs : List Loc) (ls : Array Slot), va_P D vwCl (wM cy ad S) H → va_S A s.heap H locs → lv_has ls 4 [(0, .ref (ad 0)), (1, .int x1), (2, .int x2), (3, .int x3)] → lp (fun k q => bX6_writes_48  k q.1 q.2.1 q.2.2.1 q.2.2.2) n (x1, x2, x3, S) = some (r, S') → W p l e (headSpec wsX6_writes { frames := 8, cells := 0, slots := 0, locals := 178 }).room s m args below meth c H locs 0 0 (MQ below (QcI D A r (wM cy ad S')) args s 0 0 A) (F0 m 48 ls []) := by
    intro  n
    induction n with
    | zero =>
      intro x1 x2 x3 S H locs ls hP hS hl hf
      cases hf
    | succ n ih48 =>
      intro x1 x2 x3 S H locs ls hP hS hl hf
      have hf : bX6_writes_48  (lp (fun k q => bX6_writes_48  k q.1 q.2.1 q.2.2.1 q.2.2.2) n) x1 x2 x3 S = some (r, S') := hf
      generalize lp (fun k q => bX6_writes_48  k q.1 q.2.1 q.2.2.1 q.2.2.2) n = k48 at hf ih48
      unfold bX6_writes_48 at hf
      refine lv_iload_n hx hb dX6_writes_48 rfl (lv_at hl 3 rfl) ?_
      refine lv_bipush (v := 8) hx hb dX6_writes_49 (by decide) ?_
      refine lv_icmp_ge (tgt := 101) hx hb dX6_writes_51 (by decide) (fun c58 => ?_) (fun c58 => ?_)
      · have hf := (if_pos c58).symm.trans hf
        refine lv_iload_n hx hb dX6_writes_101 rfl (lv_at hl 2 rfl) ?_
        obtain ⟨he, hS9⟩ := Prod.mk.inj (Option.some.inj hf)
        subst hS9
        exact rI hx hb hr hP hS he hlocks dX6_writes_102
      · have hf := (if_neg c58).symm.trans hf
        refine lv_aload_n hx hb dX6_writes_54 rfl (lv_at hl 0 rfl) ?_
        refine gfX6_14 hx hb hts (fun _ h => List.mem_cons_of_mem _ (List.mem_append_right _ h)) hown hK hP (hts (Cond.fieldLink RX6 42 "WhoSpeaksModel" "narrowed" "[I") (List.mem_of_getElem? (i := 1) rfl)) dX6_writes_55 ?_
        refine lv_iload_n hx hb dX6_writes_58 rfl (lv_at hl 1 rfl) ?_
        obtain ⟨c59, hf⟩ := ck_some hf
        refine alM10 hx hb hK hP c59 dX6_writes_59 ?_
        refine lv_iload_n hx hb dX6_writes_60 rfl (lv_at hl 3 rfl) ?_
        refine kSi (As := [.int (ma S 10 x1.toNatClampNeg), .int x3]) (rest := []) ⟨hx, hb, hml, hown, hts⟩ (okX6_has l D cy A (wM cy ad S) (ma S 10 x1.toNatClampNeg) x3 _ rfl) (va_cwS 2 hts gX6_writes_X6_has rfl rfl rfl (by decide +kernel) ⟨Nat.le_of_ble_eq_true rfl, Nat.le_of_ble_eq_true rfl⟩) hK hP hS rfl hl.1 rfl (Nat.le_of_ble_eq_true rfl) dX6_writes_61 (fun H locs hP hS => ?_)
        refine lv_if_eq (tgt := 95) hx hb dX6_writes_64 (by decide) (fun c61 => ?_) (fun c61 => ?_)
        · have hf := (if_pos c61).symm.trans hf
          refine lv_iinc (v := (x3 + 1)) (lv' := [(3, .int (x3 + 1)), (0, .ref (ad 0)), (1, .int x1), (2, .int x2)]) hx hb dX6_writes_95 hl (k := 3) rfl rfl (by decide) rfl (fun ls hl => ?_)
          refine lv_goto (tgt := 48) hx hb dX6_writes_98 (by decide) ?_
          exact ih48 (x1) (x2) ((x3 + 1)) S H locs ls hP hS (lv_sub hl [1, 2, 3, 0] rfl) hf
        · have hf := (if_neg c61).symm.trans hf
          refine lv_iload_n hx hb dX6_writes_67 rfl (lv_at hl 2 rfl) ?_
          refine lv_if_le (tgt := 82) hx hb dX6_writes_68 (by decide) (fun c62 => ?_) (fun c62 => ?_)
          · have hf := (if_pos c62).symm.trans hf
            exact K82 k48 ih48 (x1) (x2) (x3) S H locs ls hP hS (lv_sub hl [0, 1, 2, 3] rfl) hf
          · have hf := (if_neg c62).symm.trans hf
            refine lv_aload_n hx hb dX6_writes_71 rfl (lv_at hl 0 rfl) ?_
            refine gfX6_20 hx hb hts (fun _ h => List.mem_cons_of_mem _ (List.mem_append_right _ h)) hown hK hP (hts (Cond.fieldLink RX6 61 "WhoSpeaksModel" "text" "[I") (List.mem_of_getElem? (i := 2) rfl)) dX6_writes_72 ?_
            refine lv_iload_n hx hb dX6_writes_75 rfl (lv_at hl 2 rfl) ?_
            refine lv_bipush (v := 47) hx hb dX6_writes_76 (by decide) ?_
            obtain ⟨c64, hf⟩ := ck_some hf
            refine asM16 (v := 47) hx hb hK hP hD hS c64 dX6_writes_78 (fun S63 eS63 H locs hP hS => ?_)
            have hf := bnd_of eS63 hf
            refine lv_iinc (v := (x2 + 1)) (lv' := [(2, .int (x2 + 1)), (0, .ref (ad 0)), (1, .int x1), (3, .int x3)]) hx hb dX6_writes_79 hl (k := 2) rfl rfl (by decide) rfl (fun ls hl => ?_)
            exact K82 k48 ih48 (x1) ((x2 + 1)) (x3) S63 H locs ls hP hS (lv_sub hl [1, 2, 0, 3] rfl) hf
  have K41 : ∀ (s2 : Int32) (S : MS) (H : Heap) (locs : List Loc) (ls : Array Slot), va_P D vwCl (wM cy ad S) H → va_S A s.heap H locs → lv_has ls 4 [] → bX6_writes_41  s2 S = some (r, S') → W p l e (headSpec wsX6_writes { frames := 8, cells := 0, slots := 0, locals := 178 }).room s m args below meth c H locs 0 0 (MQ below (QcI D A r (wM cy ad S')) args s 0 0 A) (F0 m 41 ls [.int s2, .int 0, .ref (ad 16)]) := by
    intro  s2 S H locs ls hP hS hl hf
    unfold bX6_writes_41 at hf
    obtain ⟨c66, hf⟩ := ck_some hf
    refine asM16 (v := s2) hx hb hK hP hD hS c66 dX6_writes_41 (fun S65 eS65 H locs hP hS => ?_)
    have hf := bnd_of eS65 hf
    refine lv_iconst (v := 1) hx hb dX6_writes_42 (by decide) ?_
    obtain ⟨he, hS9⟩ := Prod.mk.inj (Option.some.inj hf)
    subst hS9
    exact rI hx hb hr hP hS he hlocks dX6_writes_43
  have K21 : ∀ (x1 : Int32) (S : MS) (H : Heap) (locs : List Loc) (ls : Array Slot), va_P D vwCl (wM cy ad S) H → va_S A s.heap H locs → lv_has ls 4 [(0, .ref (ad 0)), (1, .int x1)] → bX6_writes_21  x1 S = some (r, S') → W p l e (headSpec wsX6_writes { frames := 8, cells := 0, slots := 0, locals := 178 }).room s m args below meth c H locs 0 0 (MQ below (QcI D A r (wM cy ad S')) args s 0 0 A) (F0 m 21 ls []) := by
    intro  x1 S H locs ls hP hS hl hf
    unfold bX6_writes_21 at hf
    refine lv_aload_n hx hb dX6_writes_21 rfl (lv_at hl 0 rfl) ?_
    refine gfX6_20 hx hb hts (fun _ h => List.mem_cons_of_mem _ (List.mem_append_right _ h)) hown hK hP (hts (Cond.fieldLink RX6 61 "WhoSpeaksModel" "text" "[I") (List.mem_of_getElem? (i := 2) rfl)) dX6_writes_22 ?_
    refine lv_iconst (v := 0) hx hb dX6_writes_25 (by decide) ?_
    refine lv_aload_n hx hb dX6_writes_26 rfl (lv_at hl 0 rfl) ?_
    refine lv_iload_n hx hb dX6_writes_27 rfl (lv_at hl 1 rfl) ?_
    obtain ⟨r67, h68, hf⟩ := ob1_some hf
    refine kVi (As := [.int x1]) (rest := [.int 0, .ref (ad 16)]) ⟨hx, hb, hml, hown, hts⟩ (okX6_speaks l D cy ad A hD x1 S r67 h68) (cwV 1 hts gX6_writes_X6_speaks rfl rfl rfl (by decide +kernel) ⟨Nat.le_of_ble_eq_true rfl, Nat.le_of_ble_eq_true rfl⟩) hK hP hS (va_recv hK.1 hP (ci := 6) (q := (RX6, TX6, 21)) rfl (atM0 cy ad S)) rfl hl.1 rfl (Nat.le_of_ble_eq_true rfl) dX6_writes_28 (fun H locs hP hS => ?_)
    refine lv_if_eq (tgt := 39) hx hb dX6_writes_31 (by decide) (fun c69 => ?_) (fun c69 => ?_)
    · have hf := (if_pos c69).symm.trans hf
      refine lv_bipush (v := 46) hx hb dX6_writes_39 (by decide) ?_
      exact K41  (46) S H locs ls hP hS (lv_sub hl [] rfl) hf
    · have hf := (if_neg c69).symm.trans hf
      refine lv_bipush (v := 33) hx hb dX6_writes_34 (by decide) ?_
      refine lv_goto (tgt := 41) hx hb dX6_writes_36 (by decide) ?_
      exact K41  (33) S H locs ls hP hS (lv_sub hl [] rfl) hf
  unfold fX6_writes at hf
  suffices hG : ∀ (H : Heap) (locs : List Loc), va_P D vwCl (wM cy ad S) H → va_S A s.heap H locs → W p l e (headSpec wsX6_writes { frames := 8, cells := 0, slots := 0, locals := 178 }).room s m args below meth c H locs 0 0 (MQ below (QcI D A r (wM cy ad S')) args s 0 0 A) (F0 m 0 ls []) by exact hG s.heap [] hP va_S.rf
  clear hP hS
  intro H locs hP hS
  refine lv_aload_n hx hb dX6_writes_0 rfl (lv_at hl 0 rfl) ?_
  obtain ⟨S71, h70, hf⟩ := ob1_some hf
  refine kVv (As := []) (rest := []) ⟨hx, hb, hml, hown, hts⟩ (okX6_findNarrowed l D cy ad A hD  S S71 h70) (cwV 0 hts gX6_writes_X6_findNarrowed rfl rfl rfl (by decide +kernel) ⟨Nat.le_of_ble_eq_true rfl, Nat.le_of_ble_eq_true rfl⟩) hK hP hS (va_recv hK.1 hP (ci := 6) (q := (RX6, TX6, 21)) rfl (atM0 cy ad S)) rfl hl.1 rfl (Nat.le_of_ble_eq_true rfl) dX6_writes_1 (fun H locs hP hS => ?_)
  refine lv_aload_n hx hb dX6_writes_4 rfl (lv_at hl 0 rfl) ?_
  refine lv_iload_n hx hb dX6_writes_5 rfl (lv_at hl 1 rfl) ?_
  obtain ⟨r72, h73, hf⟩ := ob1_some hf
  refine kVi (As := [.int p0]) (rest := []) ⟨hx, hb, hml, hown, hts⟩ (okX6_speaks l D cy ad A hD p0 S71 r72 h73) (cwV 1 hts gX6_writes_X6_speaks rfl rfl rfl (by decide +kernel) ⟨Nat.le_of_ble_eq_true rfl, Nat.le_of_ble_eq_true rfl⟩) hK hP hS (va_recv hK.1 hP (ci := 6) (q := (RX6, TX6, 21)) rfl (atM0 cy ad S71)) rfl hl.1 rfl (Nat.le_of_ble_eq_true rfl) dX6_writes_6 (fun H locs hP hS => ?_)
  refine lv_if_eq (tgt := 21) hx hb dX6_writes_9 (by decide) (fun c74 => ?_) (fun c74 => ?_)
  · have hf := (if_pos c74).symm.trans hf
    exact K21  (p0) S71 H locs ls hP hS (lv_sub hl [0, 1] rfl) hf
  · have hf := (if_neg c74).symm.trans hf
    refine lv_aload_n hx hb dX6_writes_12 rfl (lv_at hl 0 rfl) ?_
    refine gfX6_14 hx hb hts (fun _ h => List.mem_cons_of_mem _ (List.mem_append_right _ h)) hown hK hP (hts (Cond.fieldLink RX6 42 "WhoSpeaksModel" "narrowed" "[I") (List.mem_of_getElem? (i := 1) rfl)) dX6_writes_13 ?_
    refine lv_iload_n hx hb dX6_writes_16 rfl (lv_at hl 1 rfl) ?_
    obtain ⟨c75, hf⟩ := ck_some hf
    refine alM10 hx hb hK hP c75 dX6_writes_17 ?_
    refine lv_if_ne (tgt := 44) hx hb dX6_writes_18 (by decide) (fun c76 => ?_) (fun c76 => ?_)
    · have hf := (if_neg c76).symm.trans hf
      refine lv_iconst (v := 0) hx hb dX6_writes_44 (by decide) ?_
      refine lv_istore_n (lv' := [(2, .int 0), (0, .ref (ad 0)), (1, .int p0)]) hx hb dX6_writes_45 rfl hl (by decide) rfl (fun ls hl => ?_)
      refine lv_iconst (v := 0) hx hb dX6_writes_46 (by decide) ?_
      refine lv_istore_n (lv' := [(3, .int 0), (2, .int 0), (0, .ref (ad 0)), (1, .int p0)]) hx hb dX6_writes_47 rfl hl (by decide) rfl (fun ls hl => ?_)
      exact K48  FU (p0) (0) (0) S71 H locs ls hP hS (lv_sub hl [2, 3, 1, 0] rfl) hf
    · have hf := (if_pos c76).symm.trans hf
      exact K21  (p0) S71 H locs ls hP hS (lv_sub hl [0, 1] rfl) hf

def fX6_written (p0 : Int32) (p1 : Int32) (S : MS) : Option (Int32 × MS) := (if (bi (fX6_isParagraph p0 S)) = 0 then (some ((-1), S)) else (if (bi (fX6_within p1 (-1) 14)) = 0 then (some ((-2), S)) else (ob2 (fX6_writes p0 S) (fun r10 S12 => (if 0 ≤ p1 then (if r10 ≤ p1 then (some ((-9), S12)) else (ck p1 16 (some ((ma S12 16 p1.toNatClampNeg), S12)))) else (some (r10, S12)))))))
set_option maxHeartbeats 4000000 in
set_option maxRecDepth 100000 in
theorem okX6_written (l : Launch) (D : va_G) (cy : Nat → ClassId) (ad : Nat → Nat) (A : Nat → Prop) (hD : ∀ S, va_D A (wM cy ad S)) (p0 : Int32) (p1 : Int32) (S : MS) (r : Int32) (S' : MS) (hf : fX6_written p0 p1 S = some (r, S')) : MI l yX6_written wsX6_written { frames := 9, cells := 0, slots := 0, locals := 201 } D cy A (wM cy ad S) [.ref (ad 0), .int p0, .int p1] r (wM cy ad S') := by
  refine Met.ofW (cc := cX6_written) (maxL := 4) (ret := (some .int)) (by decide) rfl ?_
  intro p e s m args below meth c s₁ B hml hv
  obtain ⟨ha, hP, hK⟩ := hv
  have hx := B.exec
  have hb := B.bytes
  have hr := B.returns
  have hts := atoms_spec (ws := wsX6_written) B.pre
  have hown : s.vm.findClass RX6 = some m.cls := findClass_of_methodNamed B.named
  have hlocks := B.notSynchronized
  have hS : va_S A s.heap s.heap [] := va_S.rf
  obtain ⟨ls, hl, he0⟩ := ent (m := m) ha (n := 4) (Nat.le_of_ble_eq_true rfl)
  refine W.eq he0 ?_
  have hl : lv_has ls 4 [(0, .ref (ad 0)), (1, .int p0), (2, .int p1)] := hl
  unfold fX6_written at hf
  suffices hG : ∀ (H : Heap) (locs : List Loc), va_P D vwCl (wM cy ad S) H → va_S A s.heap H locs → W p l e (headSpec wsX6_written { frames := 9, cells := 0, slots := 0, locals := 201 }).room s m args below meth c H locs 0 0 (MQ below (QcI D A r (wM cy ad S')) args s 0 0 A) (F0 m 0 ls []) by exact hG s.heap [] hP va_S.rf
  clear hP hS
  intro H locs hP hS
  refine lv_aload_n hx hb dX6_written_0 rfl (lv_at hl 0 rfl) ?_
  refine lv_iload_n hx hb dX6_written_1 rfl (lv_at hl 1 rfl) ?_
  refine kVi (As := [.int p0]) (rest := []) ⟨hx, hb, hml, hown, hts⟩ (okX6_isParagraph l D cy ad A hD p0 S _ rfl) (cwV 1 hts gX6_written_X6_isParagraph rfl rfl rfl (by decide +kernel) ⟨Nat.le_of_ble_eq_true rfl, Nat.le_of_ble_eq_true rfl⟩) hK hP hS (va_recv hK.1 hP (ci := 6) (q := (RX6, TX6, 21)) rfl (atM0 cy ad S)) rfl hl.1 rfl (Nat.le_of_ble_eq_true rfl) dX6_written_2 (fun H locs hP hS => ?_)
  refine lv_if_ne (tgt := 10) hx hb dX6_written_5 (by decide) (fun c7 => ?_) (fun c7 => ?_)
  · have hf := (if_neg c7).symm.trans hf
    refine lv_iload_n hx hb dX6_written_10 rfl (lv_at hl 2 rfl) ?_
    refine lv_iconst (v := (-1)) hx hb dX6_written_11 (by decide) ?_
    refine lv_bipush (v := 14) hx hb dX6_written_12 (by decide) ?_
    refine kSi (As := [.int p1, .int (-1), .int 14]) (rest := []) ⟨hx, hb, hml, hown, hts⟩ (okX6_within l D cy A (wM cy ad S) p1 (-1) 14 _ rfl) (va_cwS 3 hts gX6_written_X6_within rfl rfl rfl (by decide +kernel) ⟨Nat.le_of_ble_eq_true rfl, Nat.le_of_ble_eq_true rfl⟩) hK hP hS rfl hl.1 rfl (Nat.le_of_ble_eq_true rfl) dX6_written_14 (fun H locs hP hS => ?_)
    refine lv_if_ne (tgt := 23) hx hb dX6_written_17 (by decide) (fun c9 => ?_) (fun c9 => ?_)
    · have hf := (if_neg c9).symm.trans hf
      refine lv_aload_n hx hb dX6_written_23 rfl (lv_at hl 0 rfl) ?_
      refine lv_iload_n hx hb dX6_written_24 rfl (lv_at hl 1 rfl) ?_
      obtain ⟨r10, S12, h11, hf⟩ := ob2_some hf
      refine kVi (As := [.int p0]) (rest := []) ⟨hx, hb, hml, hown, hts⟩ (okX6_writes l D cy ad A hD p0 S r10 S12 h11) (cwV 1 hts gX6_written_X6_writes rfl rfl rfl (by decide +kernel) ⟨Nat.le_of_ble_eq_true rfl, Nat.le_of_ble_eq_true rfl⟩) hK hP hS (va_recv hK.1 hP (ci := 6) (q := (RX6, TX6, 21)) rfl (atM0 cy ad S)) rfl hl.1 rfl (Nat.le_of_ble_eq_true rfl) dX6_written_25 (fun H locs hP hS => ?_)
      refine lv_istore_n (lv' := [(3, .int r10), (0, .ref (ad 0)), (1, .int p0), (2, .int p1)]) hx hb dX6_written_28 rfl hl (by decide) rfl (fun ls hl => ?_)
      refine lv_iload_n hx hb dX6_written_29 rfl (lv_at hl 3 rfl) ?_
      refine lv_if_ge (tgt := 37) hx hb dX6_written_30 (by decide) (fun c13 => ?_) (fun c13 => ?_)
      · have hf := (if_pos c13).symm.trans hf
        refine lv_iload_n hx hb dX6_written_37 rfl (lv_at hl 3 rfl) ?_
        refine lv_iload_n hx hb dX6_written_38 rfl (lv_at hl 0 rfl) ?_
        refine lv_icmp_ge (tgt := 51) hx hb dX6_written_39 (by decide) (fun c14 => ?_) (fun c14 => ?_)
        · have hf := (if_pos c14).symm.trans hf
          refine lv_bipush (v := (-9)) hx hb dX6_written_51 (by decide) ?_
          obtain ⟨he, hS9⟩ := Prod.mk.inj (Option.some.inj hf)
          subst hS9
          exact rI hx hb hr hP hS he hlocks dX6_written_53
        · have hf := (if_neg c14).symm.trans hf
          refine lv_aload_n hx hb dX6_written_42 rfl (lv_at hl 1 rfl) ?_
          refine gfX6_20 hx hb hts (fun _ h => List.mem_cons_of_mem _ (List.mem_append_right _ h)) hown hK hP (hts (Cond.fieldLink RX6 61 "WhoSpeaksModel" "text" "[I") (List.mem_of_getElem? (i := 1) rfl)) dX6_written_43 ?_
          refine lv_iload_n hx hb dX6_written_46 rfl (lv_at hl 3 rfl) ?_
          obtain ⟨c15, hf⟩ := ck_some hf
          refine alM16 hx hb hK hP c15 dX6_written_47 ?_
          refine lv_goto (tgt := 53) hx hb dX6_written_48 (by decide) ?_
          obtain ⟨he, hS9⟩ := Prod.mk.inj (Option.some.inj hf)
          subst hS9
          exact rI hx hb hr hP hS he hlocks dX6_written_53
      · have hf := (if_neg c13).symm.trans hf
        refine lv_iload_n hx hb dX6_written_33 rfl (lv_at hl 0 rfl) ?_
        refine lv_goto (tgt := 53) hx hb dX6_written_34 (by decide) ?_
        obtain ⟨he, hS9⟩ := Prod.mk.inj (Option.some.inj hf)
        subst hS9
        exact rI hx hb hr hP hS he hlocks dX6_written_53
    · have hf := (if_pos c9).symm.trans hf
      refine lv_bipush (v := (-2)) hx hb dX6_written_20 (by decide) ?_
      obtain ⟨he, hS9⟩ := Prod.mk.inj (Option.some.inj hf)
      subst hS9
      exact rI hx hb hr hP hS he hlocks dX6_written_22
  · have hf := (if_pos c7).symm.trans hf
    refine lv_iconst (v := (-1)) hx hb dX6_written_8 (by decide) ?_
    obtain ⟨he, hS9⟩ := Prod.mk.inj (Option.some.inj hf)
    subst hS9
    exact rI hx hb hr hP hS he hlocks dX6_written_9

def bX6_manySpeak_4  (k4 : Int32 × Int32 × MS → Option Int32) (x1 : Int32) (x2 : Int32) (S : MS) : Option Int32 := (if (mi S 3) ≤ x2 then (some x1) else (ob1 (fX6_speaks x2 S) (fun r14 => (if (bi r14) = 0 then (bnd ((x1 + 0)) (fun y17 => (k4 (y17, (x2 + 1), S)))) else (bnd ((x1 + 1)) (fun y18 => (k4 (y18, (x2 + 1), S))))))))
def fX6_manySpeak  (S : MS) : Option Int32 := (lp (fun k q => bX6_manySpeak_4  k q.1 q.2.1 q.2.2) FU (0, 0, S))
set_option maxHeartbeats 4000000 in
set_option maxRecDepth 100000 in
theorem okX6_manySpeak (l : Launch) (D : va_G) (cy : Nat → ClassId) (ad : Nat → Nat) (A : Nat → Prop) (hD : ∀ S, va_D A (wM cy ad S))  (S : MS) (r : Int32) (hf : fX6_manySpeak  S = some r) : MI l yX6_manySpeak wsX6_manySpeak { frames := 2, cells := 0, slots := 0, locals := 45 } D cy A (wM cy ad S) [.ref (ad 0)] r (wM cy ad S) := by
  refine Met.ofW (cc := cX6_manySpeak) (maxL := 3) (ret := (some .int)) (by decide) rfl ?_
  intro p e s m args below meth c s₁ B hml hv
  obtain ⟨ha, hP, hK⟩ := hv
  have hx := B.exec
  have hb := B.bytes
  have hr := B.returns
  have hts := atoms_spec (ws := wsX6_manySpeak) B.pre
  have hown : s.vm.findClass RX6 = some m.cls := findClass_of_methodNamed B.named
  have hlocks := B.notSynchronized
  have hS : va_S A s.heap s.heap [] := va_S.rf
  obtain ⟨ls, hl, he0⟩ := ent (m := m) ha (n := 3) (Nat.le_of_ble_eq_true rfl)
  refine W.eq he0 ?_
  have hl : lv_has ls 3 [(0, .ref (ad 0))] := hl
  have K4 : ∀ (n : Nat), ∀ (x1 : Int32) (x2 : Int32) (S : MS) (H : Heap) (locs : List Loc) (ls : Array Slot), va_P D vwCl (wM cy ad S) H → va_S A s.heap H locs → lv_has ls 3 [(0, .ref (ad 0)), (1, .int x1), (2, .int x2)] → lp (fun k q => bX6_manySpeak_4  k q.1 q.2.1 q.2.2) n (x1, x2, S) = some r → W p l e (headSpec wsX6_manySpeak { frames := 2, cells := 0, slots := 0, locals := 45 }).room s m args below meth c H locs 0 0 (MQ below (QcI D A r (wM cy ad S)) args s 0 0 A) (F0 m 4 ls []) := by
    intro  n
    induction n with
    | zero =>
      intro x1 x2 S H locs ls hP hS hl hf
      cases hf
    | succ n ih4 =>
      intro x1 x2 S H locs ls hP hS hl hf
      have hf : bX6_manySpeak_4  (lp (fun k q => bX6_manySpeak_4  k q.1 q.2.1 q.2.2) n) x1 x2 S = some r := hf
      generalize lp (fun k q => bX6_manySpeak_4  k q.1 q.2.1 q.2.2) n = k4 at hf ih4
      unfold bX6_manySpeak_4 at hf
      refine lv_iload_n hx hb dX6_manySpeak_4 rfl (lv_at hl 2 rfl) ?_
      refine lv_aload_n hx hb dX6_manySpeak_5 rfl (lv_at hl 0 rfl) ?_
      refine gfX6_5 hx hb hts (fun _ h => List.mem_cons_of_mem _ (List.mem_append_right _ h)) hown hK hP (hts (Cond.fieldLink RX6 68 "WhoSpeaksModel" "paragraphs" "I") (List.mem_of_getElem? (i := 1) rfl)) dX6_manySpeak_6 ?_
      refine lv_icmp_ge (tgt := 34) hx hb dX6_manySpeak_9 (by decide) (fun c13 => ?_) (fun c13 => ?_)
      · have hf := (if_pos c13).symm.trans hf
        refine lv_iload_n hx hb dX6_manySpeak_34 rfl (lv_at hl 1 rfl) ?_
        have he := Option.some.inj hf
        exact rI hx hb hr hP hS he hlocks dX6_manySpeak_35
      · have hf := (if_neg c13).symm.trans hf
        refine lv_iload_n hx hb dX6_manySpeak_12 rfl (lv_at hl 1 rfl) ?_
        refine lv_aload_n hx hb dX6_manySpeak_13 rfl (lv_at hl 0 rfl) ?_
        refine lv_iload_n hx hb dX6_manySpeak_14 rfl (lv_at hl 2 rfl) ?_
        obtain ⟨r14, h15, hf⟩ := ob1_some hf
        refine kVi (As := [.int x2]) (rest := [.int x1]) ⟨hx, hb, hml, hown, hts⟩ (okX6_speaks l D cy ad A hD x2 S r14 h15) (cwV 1 hts gX6_manySpeak_X6_speaks rfl rfl rfl (by decide +kernel) ⟨Nat.le_of_ble_eq_true rfl, Nat.le_of_ble_eq_true rfl⟩) hK hP hS (va_recv hK.1 hP (ci := 6) (q := (RX6, TX6, 21)) rfl (atM0 cy ad S)) rfl hl.1 rfl (Nat.le_of_ble_eq_true rfl) dX6_manySpeak_15 (fun H locs hP hS => ?_)
        refine lv_if_eq (tgt := 25) hx hb dX6_manySpeak_18 (by decide) (fun c16 => ?_) (fun c16 => ?_)
        · have hf := (if_pos c16).symm.trans hf
          refine lv_iconst (v := 0) hx hb dX6_manySpeak_25 (by decide) ?_
          refine lv_iadd hx hb dX6_manySpeak_26 ?_
          refine lv_topi (fun y17 ey17 => ?_)
          have hf := bnd_of ey17 hf
          refine lv_istore_n (lv' := [(1, .int y17), (0, .ref (ad 0)), (2, .int x2)]) hx hb dX6_manySpeak_27 rfl hl (by decide) rfl (fun ls hl => ?_)
          refine lv_iinc (v := (x2 + 1)) (lv' := [(2, .int (x2 + 1)), (1, .int y17), (0, .ref (ad 0))]) hx hb dX6_manySpeak_28 hl (k := 2) rfl rfl (by decide) rfl (fun ls hl => ?_)
          refine lv_goto (tgt := 4) hx hb dX6_manySpeak_31 (by decide) ?_
          exact ih4 (y17) ((x2 + 1)) S H locs ls hP hS (lv_sub hl [2, 1, 0] rfl) hf
        · have hf := (if_neg c16).symm.trans hf
          refine lv_iconst (v := 1) hx hb dX6_manySpeak_21 (by decide) ?_
          refine lv_goto (tgt := 26) hx hb dX6_manySpeak_22 (by decide) ?_
          refine lv_iadd hx hb dX6_manySpeak_26 ?_
          refine lv_topi (fun y18 ey18 => ?_)
          have hf := bnd_of ey18 hf
          refine lv_istore_n (lv' := [(1, .int y18), (0, .ref (ad 0)), (2, .int x2)]) hx hb dX6_manySpeak_27 rfl hl (by decide) rfl (fun ls hl => ?_)
          refine lv_iinc (v := (x2 + 1)) (lv' := [(2, .int (x2 + 1)), (1, .int y18), (0, .ref (ad 0))]) hx hb dX6_manySpeak_28 hl (k := 2) rfl rfl (by decide) rfl (fun ls hl => ?_)
          refine lv_goto (tgt := 4) hx hb dX6_manySpeak_31 (by decide) ?_
          exact ih4 (y18) ((x2 + 1)) S H locs ls hP hS (lv_sub hl [2, 1, 0] rfl) hf
  unfold fX6_manySpeak at hf
  suffices hG : ∀ (H : Heap) (locs : List Loc), va_P D vwCl (wM cy ad S) H → va_S A s.heap H locs → W p l e (headSpec wsX6_manySpeak { frames := 2, cells := 0, slots := 0, locals := 45 }).room s m args below meth c H locs 0 0 (MQ below (QcI D A r (wM cy ad S)) args s 0 0 A) (F0 m 0 ls []) by exact hG s.heap [] hP va_S.rf
  clear hP hS
  intro H locs hP hS
  refine lv_iconst (v := 0) hx hb dX6_manySpeak_0 (by decide) ?_
  refine lv_istore_n (lv' := [(1, .int 0), (0, .ref (ad 0))]) hx hb dX6_manySpeak_1 rfl hl (by decide) rfl (fun ls hl => ?_)
  refine lv_iconst (v := 0) hx hb dX6_manySpeak_2 (by decide) ?_
  refine lv_istore_n (lv' := [(2, .int 0), (1, .int 0), (0, .ref (ad 0))]) hx hb dX6_manySpeak_3 rfl hl (by decide) rfl (fun ls hl => ?_)
  exact K4  FU (0) (0) S H locs ls hP hS (lv_sub hl [2, 1, 0] rfl) hf

def bX6_manySure_8  (k8 : Int32 × Int32 × MS → Option (Int32 × MS)) (x1 : Int32) (x2 : Int32) (S : MS) : Option (Int32 × MS) := (if (mi S 3) ≤ x2 then (some (x1, S)) else (ck x2 16 (ob1 (fX6_size (ma S 15 x2.toNatClampNeg)) (fun r18 => (if r18 = 1 then (bnd ((x1 + 1)) (fun y22 => (k8 (y22, (x2 + 1), S)))) else (bnd ((x1 + 0)) (fun y21 => (k8 (y21, (x2 + 1), S)))))))))
def fX6_manySure  (S : MS) : Option (Int32 × MS) := (ob1 (fX6_findSure  S) (fun S24 => (lp (fun k q => bX6_manySure_8  k q.1 q.2.1 q.2.2) FU (0, 0, S24))))
set_option maxHeartbeats 4000000 in
set_option maxRecDepth 100000 in
theorem okX6_manySure (l : Launch) (D : va_G) (cy : Nat → ClassId) (ad : Nat → Nat) (A : Nat → Prop) (hD : ∀ S, va_D A (wM cy ad S))  (S : MS) (r : Int32) (S' : MS) (hf : fX6_manySure  S = some (r, S')) : MI l yX6_manySure wsX6_manySure { frames := 9, cells := 0, slots := 0, locals := 199 } D cy A (wM cy ad S) [.ref (ad 0)] r (wM cy ad S') := by
  refine Met.ofW (cc := cX6_manySure) (maxL := 3) (ret := (some .int)) (by decide) rfl ?_
  intro p e s m args below meth c s₁ B hml hv
  obtain ⟨ha, hP, hK⟩ := hv
  have hx := B.exec
  have hb := B.bytes
  have hr := B.returns
  have hts := atoms_spec (ws := wsX6_manySure) B.pre
  have hown : s.vm.findClass RX6 = some m.cls := findClass_of_methodNamed B.named
  have hlocks := B.notSynchronized
  have hS : va_S A s.heap s.heap [] := va_S.rf
  obtain ⟨ls, hl, he0⟩ := ent (m := m) ha (n := 3) (Nat.le_of_ble_eq_true rfl)
  refine W.eq he0 ?_
  have hl : lv_has ls 3 [(0, .ref (ad 0))] := hl
  have K8 : ∀ (n : Nat), ∀ (x1 : Int32) (x2 : Int32) (S : MS) (H : Heap) (locs : List Loc) (ls : Array Slot), va_P D vwCl (wM cy ad S) H → va_S A s.heap H locs → lv_has ls 3 [(0, .ref (ad 0)), (1, .int x1), (2, .int x2)] → lp (fun k q => bX6_manySure_8  k q.1 q.2.1 q.2.2) n (x1, x2, S) = some (r, S') → W p l e (headSpec wsX6_manySure { frames := 9, cells := 0, slots := 0, locals := 199 }).room s m args below meth c H locs 0 0 (MQ below (QcI D A r (wM cy ad S')) args s 0 0 A) (F0 m 8 ls []) := by
    intro  n
    induction n with
    | zero =>
      intro x1 x2 S H locs ls hP hS hl hf
      cases hf
    | succ n ih8 =>
      intro x1 x2 S H locs ls hP hS hl hf
      have hf : bX6_manySure_8  (lp (fun k q => bX6_manySure_8  k q.1 q.2.1 q.2.2) n) x1 x2 S = some (r, S') := hf
      generalize lp (fun k q => bX6_manySure_8  k q.1 q.2.1 q.2.2) n = k8 at hf ih8
      unfold bX6_manySure_8 at hf
      refine lv_iload_n hx hb dX6_manySure_8 rfl (lv_at hl 2 rfl) ?_
      refine lv_aload_n hx hb dX6_manySure_9 rfl (lv_at hl 0 rfl) ?_
      refine gfX6_5 hx hb hts (fun _ h => List.mem_cons_of_mem _ (List.mem_append_right _ h)) hown hK hP (hts (Cond.fieldLink RX6 68 "WhoSpeaksModel" "paragraphs" "I") (List.mem_of_getElem? (i := 1) rfl)) dX6_manySure_10 ?_
      refine lv_icmp_ge (tgt := 43) hx hb dX6_manySure_13 (by decide) (fun c16 => ?_) (fun c16 => ?_)
      · have hf := (if_pos c16).symm.trans hf
        refine lv_iload_n hx hb dX6_manySure_43 rfl (lv_at hl 1 rfl) ?_
        obtain ⟨he, hS9⟩ := Prod.mk.inj (Option.some.inj hf)
        subst hS9
        exact rI hx hb hr hP hS he hlocks dX6_manySure_44
      · have hf := (if_neg c16).symm.trans hf
        refine lv_iload_n hx hb dX6_manySure_16 rfl (lv_at hl 1 rfl) ?_
        refine lv_aload_n hx hb dX6_manySure_17 rfl (lv_at hl 0 rfl) ?_
        refine gfX6_19 hx hb hts (fun _ h => List.mem_cons_of_mem _ (List.mem_append_right _ h)) hown hK hP (hts (Cond.fieldLink RX6 58 "WhoSpeaksModel" "sure" "[I") (List.mem_of_getElem? (i := 2) rfl)) dX6_manySure_18 ?_
        refine lv_iload_n hx hb dX6_manySure_21 rfl (lv_at hl 2 rfl) ?_
        obtain ⟨c17, hf⟩ := ck_some hf
        refine alM15 hx hb hK hP c17 dX6_manySure_22 ?_
        obtain ⟨r18, h19, hf⟩ := ob1_some hf
        refine kSi (As := [.int (ma S 15 x2.toNatClampNeg)]) (rest := [.int x1]) ⟨hx, hb, hml, hown, hts⟩ (okX6_size l D cy A (wM cy ad S) (ma S 15 x2.toNatClampNeg) r18 h19) (va_cwS 1 hts gX6_manySure_X6_size rfl rfl rfl (by decide +kernel) ⟨Nat.le_of_ble_eq_true rfl, Nat.le_of_ble_eq_true rfl⟩) hK hP hS rfl hl.1 rfl (Nat.le_of_ble_eq_true rfl) dX6_manySure_23 (fun H locs hP hS => ?_)
        refine lv_iconst (v := 1) hx hb dX6_manySure_26 (by decide) ?_
        refine lv_icmp_ne (tgt := 34) hx hb dX6_manySure_27 (by decide) (fun c20 => ?_) (fun c20 => ?_)
        · have hf := (if_neg c20).symm.trans hf
          refine lv_iconst (v := 0) hx hb dX6_manySure_34 (by decide) ?_
          refine lv_iadd hx hb dX6_manySure_35 ?_
          refine lv_topi (fun y21 ey21 => ?_)
          have hf := bnd_of ey21 hf
          refine lv_istore_n (lv' := [(1, .int y21), (0, .ref (ad 0)), (2, .int x2)]) hx hb dX6_manySure_36 rfl hl (by decide) rfl (fun ls hl => ?_)
          refine lv_iinc (v := (x2 + 1)) (lv' := [(2, .int (x2 + 1)), (1, .int y21), (0, .ref (ad 0))]) hx hb dX6_manySure_37 hl (k := 2) rfl rfl (by decide) rfl (fun ls hl => ?_)
          refine lv_goto (tgt := 8) hx hb dX6_manySure_40 (by decide) ?_
          exact ih8 (y21) ((x2 + 1)) S H locs ls hP hS (lv_sub hl [2, 1, 0] rfl) hf
        · have hf := (if_pos c20).symm.trans hf
          refine lv_iconst (v := 1) hx hb dX6_manySure_30 (by decide) ?_
          refine lv_goto (tgt := 35) hx hb dX6_manySure_31 (by decide) ?_
          refine lv_iadd hx hb dX6_manySure_35 ?_
          refine lv_topi (fun y22 ey22 => ?_)
          have hf := bnd_of ey22 hf
          refine lv_istore_n (lv' := [(1, .int y22), (0, .ref (ad 0)), (2, .int x2)]) hx hb dX6_manySure_36 rfl hl (by decide) rfl (fun ls hl => ?_)
          refine lv_iinc (v := (x2 + 1)) (lv' := [(2, .int (x2 + 1)), (1, .int y22), (0, .ref (ad 0))]) hx hb dX6_manySure_37 hl (k := 2) rfl rfl (by decide) rfl (fun ls hl => ?_)
          refine lv_goto (tgt := 8) hx hb dX6_manySure_40 (by decide) ?_
          exact ih8 (y22) ((x2 + 1)) S H locs ls hP hS (lv_sub hl [2, 1, 0] rfl) hf
  unfold fX6_manySure at hf
  suffices hG : ∀ (H : Heap) (locs : List Loc), va_P D vwCl (wM cy ad S) H → va_S A s.heap H locs → W p l e (headSpec wsX6_manySure { frames := 9, cells := 0, slots := 0, locals := 199 }).room s m args below meth c H locs 0 0 (MQ below (QcI D A r (wM cy ad S')) args s 0 0 A) (F0 m 0 ls []) by exact hG s.heap [] hP va_S.rf
  clear hP hS
  intro H locs hP hS
  refine lv_aload_n hx hb dX6_manySure_0 rfl (lv_at hl 0 rfl) ?_
  obtain ⟨S24, h23, hf⟩ := ob1_some hf
  refine kVv (As := []) (rest := []) ⟨hx, hb, hml, hown, hts⟩ (okX6_findSure l D cy ad A hD  S S24 h23) (cwV 0 hts gX6_manySure_X6_findSure rfl rfl rfl (by decide +kernel) ⟨Nat.le_of_ble_eq_true rfl, Nat.le_of_ble_eq_true rfl⟩) hK hP hS (va_recv hK.1 hP (ci := 6) (q := (RX6, TX6, 21)) rfl (atM0 cy ad S)) rfl hl.1 rfl (Nat.le_of_ble_eq_true rfl) dX6_manySure_1 (fun H locs hP hS => ?_)
  refine lv_iconst (v := 0) hx hb dX6_manySure_4 (by decide) ?_
  refine lv_istore_n (lv' := [(1, .int 0), (0, .ref (ad 0))]) hx hb dX6_manySure_5 rfl hl (by decide) rfl (fun ls hl => ?_)
  refine lv_iconst (v := 0) hx hb dX6_manySure_6 (by decide) ?_
  refine lv_istore_n (lv' := [(2, .int 0), (1, .int 0), (0, .ref (ad 0))]) hx hb dX6_manySure_7 rfl hl (by decide) rfl (fun ls hl => ?_)
  exact K8  FU (0) (0) S24 H locs ls hP hS (lv_sub hl [2, 1, 0] rfl) hf

def bX6_manyHints_4  (k4 : Int32 × Int32 × MS → Option Int32) (x1 : Int32) (x2 : Int32) (S : MS) : Option Int32 := (if (mi S 3) ≤ x2 then (some x1) else (ck x2 16 (if (ma S 8 x2.toNatClampNeg) = (-9) then (bnd ((x1 + 0)) (fun y19 => (k4 (y19, (x2 + 1), S)))) else (bnd ((x1 + 1)) (fun y20 => (k4 (y20, (x2 + 1), S)))))))
def fX6_manyHints  (S : MS) : Option Int32 := (lp (fun k q => bX6_manyHints_4  k q.1 q.2.1 q.2.2) FU (0, 0, S))
set_option maxHeartbeats 4000000 in
set_option maxRecDepth 100000 in
theorem okX6_manyHints (l : Launch) (D : va_G) (cy : Nat → ClassId) (ad : Nat → Nat) (A : Nat → Prop) (hD : ∀ S, va_D A (wM cy ad S))  (S : MS) (r : Int32) (hf : fX6_manyHints  S = some r) : MI l yX6_manyHints wsX6_manyHints { frames := 0, cells := 0, slots := 0, locals := 0 } D cy A (wM cy ad S) [.ref (ad 0)] r (wM cy ad S) := by
  refine Met.ofW (cc := cX6_manyHints) (maxL := 3) (ret := (some .int)) (by decide) rfl ?_
  intro p e s m args below meth c s₁ B hml hv
  obtain ⟨ha, hP, hK⟩ := hv
  have hx := B.exec
  have hb := B.bytes
  have hr := B.returns
  have hts := atoms_spec (ws := wsX6_manyHints) B.pre
  have hown : s.vm.findClass RX6 = some m.cls := findClass_of_methodNamed B.named
  have hlocks := B.notSynchronized
  have hS : va_S A s.heap s.heap [] := va_S.rf
  obtain ⟨ls, hl, he0⟩ := ent (m := m) ha (n := 3) (Nat.le_of_ble_eq_true rfl)
  refine W.eq he0 ?_
  have hl : lv_has ls 3 [(0, .ref (ad 0))] := hl
  have K4 : ∀ (n : Nat), ∀ (x1 : Int32) (x2 : Int32) (S : MS) (H : Heap) (locs : List Loc) (ls : Array Slot), va_P D vwCl (wM cy ad S) H → va_S A s.heap H locs → lv_has ls 3 [(0, .ref (ad 0)), (1, .int x1), (2, .int x2)] → lp (fun k q => bX6_manyHints_4  k q.1 q.2.1 q.2.2) n (x1, x2, S) = some r → W p l e (headSpec wsX6_manyHints { frames := 0, cells := 0, slots := 0, locals := 0 }).room s m args below meth c H locs 0 0 (MQ below (QcI D A r (wM cy ad S)) args s 0 0 A) (F0 m 4 ls []) := by
    intro  n
    induction n with
    | zero =>
      intro x1 x2 S H locs ls hP hS hl hf
      cases hf
    | succ n ih4 =>
      intro x1 x2 S H locs ls hP hS hl hf
      have hf : bX6_manyHints_4  (lp (fun k q => bX6_manyHints_4  k q.1 q.2.1 q.2.2) n) x1 x2 S = some r := hf
      generalize lp (fun k q => bX6_manyHints_4  k q.1 q.2.1 q.2.2) n = k4 at hf ih4
      unfold bX6_manyHints_4 at hf
      refine lv_iload_n hx hb dX6_manyHints_4 rfl (lv_at hl 2 rfl) ?_
      refine lv_aload_n hx hb dX6_manyHints_5 rfl (lv_at hl 0 rfl) ?_
      refine gfX6_5 hx hb hts (fun _ h => List.mem_cons_of_mem _ (List.mem_append_right _ h)) hown hK hP (hts (Cond.fieldLink RX6 68 "WhoSpeaksModel" "paragraphs" "I") (List.mem_of_getElem? (i := 1) rfl)) dX6_manyHints_6 ?_
      refine lv_icmp_ge (tgt := 37) hx hb dX6_manyHints_9 (by decide) (fun c16 => ?_) (fun c16 => ?_)
      · have hf := (if_pos c16).symm.trans hf
        refine lv_iload_n hx hb dX6_manyHints_37 rfl (lv_at hl 1 rfl) ?_
        have he := Option.some.inj hf
        exact rI hx hb hr hP hS he hlocks dX6_manyHints_38
      · have hf := (if_neg c16).symm.trans hf
        refine lv_iload_n hx hb dX6_manyHints_12 rfl (lv_at hl 1 rfl) ?_
        refine lv_aload_n hx hb dX6_manyHints_13 rfl (lv_at hl 0 rfl) ?_
        refine gfX6_11 hx hb hts (fun _ h => List.mem_cons_of_mem _ (List.mem_append_right _ h)) hown hK hP (hts (Cond.fieldLink RX6 36 "WhoSpeaksModel" "hintOf" "[I") (List.mem_of_getElem? (i := 2) rfl)) dX6_manyHints_14 ?_
        refine lv_iload_n hx hb dX6_manyHints_17 rfl (lv_at hl 2 rfl) ?_
        obtain ⟨c17, hf⟩ := ck_some hf
        refine alM8 hx hb hK hP c17 dX6_manyHints_18 ?_
        refine lv_bipush (v := (-9)) hx hb dX6_manyHints_19 (by decide) ?_
        refine lv_icmp_eq (tgt := 28) hx hb dX6_manyHints_21 (by decide) (fun c18 => ?_) (fun c18 => ?_)
        · have hf := (if_pos c18).symm.trans hf
          refine lv_iconst (v := 0) hx hb dX6_manyHints_28 (by decide) ?_
          refine lv_iadd hx hb dX6_manyHints_29 ?_
          refine lv_topi (fun y19 ey19 => ?_)
          have hf := bnd_of ey19 hf
          refine lv_istore_n (lv' := [(1, .int y19), (0, .ref (ad 0)), (2, .int x2)]) hx hb dX6_manyHints_30 rfl hl (by decide) rfl (fun ls hl => ?_)
          refine lv_iinc (v := (x2 + 1)) (lv' := [(2, .int (x2 + 1)), (1, .int y19), (0, .ref (ad 0))]) hx hb dX6_manyHints_31 hl (k := 2) rfl rfl (by decide) rfl (fun ls hl => ?_)
          refine lv_goto (tgt := 4) hx hb dX6_manyHints_34 (by decide) ?_
          exact ih4 (y19) ((x2 + 1)) S H locs ls hP hS (lv_sub hl [2, 1, 0] rfl) hf
        · have hf := (if_neg c18).symm.trans hf
          refine lv_iconst (v := 1) hx hb dX6_manyHints_24 (by decide) ?_
          refine lv_goto (tgt := 29) hx hb dX6_manyHints_25 (by decide) ?_
          refine lv_iadd hx hb dX6_manyHints_29 ?_
          refine lv_topi (fun y20 ey20 => ?_)
          have hf := bnd_of ey20 hf
          refine lv_istore_n (lv' := [(1, .int y20), (0, .ref (ad 0)), (2, .int x2)]) hx hb dX6_manyHints_30 rfl hl (by decide) rfl (fun ls hl => ?_)
          refine lv_iinc (v := (x2 + 1)) (lv' := [(2, .int (x2 + 1)), (1, .int y20), (0, .ref (ad 0))]) hx hb dX6_manyHints_31 hl (k := 2) rfl rfl (by decide) rfl (fun ls hl => ?_)
          refine lv_goto (tgt := 4) hx hb dX6_manyHints_34 (by decide) ?_
          exact ih4 (y20) ((x2 + 1)) S H locs ls hP hS (lv_sub hl [2, 1, 0] rfl) hf
  unfold fX6_manyHints at hf
  suffices hG : ∀ (H : Heap) (locs : List Loc), va_P D vwCl (wM cy ad S) H → va_S A s.heap H locs → W p l e (headSpec wsX6_manyHints { frames := 0, cells := 0, slots := 0, locals := 0 }).room s m args below meth c H locs 0 0 (MQ below (QcI D A r (wM cy ad S)) args s 0 0 A) (F0 m 0 ls []) by exact hG s.heap [] hP va_S.rf
  clear hP hS
  intro H locs hP hS
  refine lv_iconst (v := 0) hx hb dX6_manyHints_0 (by decide) ?_
  refine lv_istore_n (lv' := [(1, .int 0), (0, .ref (ad 0))]) hx hb dX6_manyHints_1 rfl hl (by decide) rfl (fun ls hl => ?_)
  refine lv_iconst (v := 0) hx hb dX6_manyHints_2 (by decide) ?_
  refine lv_istore_n (lv' := [(2, .int 0), (1, .int 0), (0, .ref (ad 0))]) hx hb dX6_manyHints_3 rfl hl (by decide) rfl (fun ls hl => ?_)
  exact K4  FU (0) (0) S H locs ls hP hS (lv_sub hl [2, 1, 0] rfl) hf

def fX6_many (p0 : Int32) (S : MS) : Option (Int32 × MS) := (if p0 = 0 then (ob1 (fX6_there  S) (fun r2 => (ob1 (fX6_size r2) (fun r4 => (some (r4, S)))))) else (if p0 = 1 then (some ((mi S 3), S)) else (if p0 = 2 then (ob1 (fX6_manySpeak  S) (fun r8 => (some (r8, S)))) else (if p0 = 3 then (ob1 (fX6_runs  S) (fun r11 => (some (r11, S)))) else (if p0 = 4 then (ob2 (fX6_manySure  S) (fun r14 S16 => (some (r14, S16)))) else (if p0 = 5 then (ob1 (fX6_manyHints  S) (fun r18 => (some (r18, S)))) else (if p0 = 6 then (some ((mi S 2), S)) else (if p0 = 7 then (some ((mi S 0), S)) else (if p0 = 8 then (some ((mi S 1), S)) else (some ((-2), S)))))))))))
set_option maxHeartbeats 4000000 in
set_option maxRecDepth 100000 in
theorem okX6_many (l : Launch) (D : va_G) (cy : Nat → ClassId) (ad : Nat → Nat) (A : Nat → Prop) (hD : ∀ S, va_D A (wM cy ad S)) (p0 : Int32) (S : MS) (r : Int32) (S' : MS) (hf : fX6_many p0 S = some (r, S')) : MI l yX6_many wsX6_many { frames := 10, cells := 0, slots := 0, locals := 221 } D cy A (wM cy ad S) [.ref (ad 0), .int p0] r (wM cy ad S') := by
  refine Met.ofW (cc := cX6_many) (maxL := 2) (ret := (some .int)) (by decide) rfl ?_
  intro p e s m args below meth c s₁ B hml hv
  obtain ⟨ha, hP, hK⟩ := hv
  have hx := B.exec
  have hb := B.bytes
  have hr := B.returns
  have hts := atoms_spec (ws := wsX6_many) B.pre
  have hown : s.vm.findClass RX6 = some m.cls := findClass_of_methodNamed B.named
  have hlocks := B.notSynchronized
  have hS : va_S A s.heap s.heap [] := va_S.rf
  obtain ⟨ls, hl, he0⟩ := ent (m := m) ha (n := 2) (Nat.le_of_ble_eq_true rfl)
  refine W.eq he0 ?_
  have hl : lv_has ls 2 [(0, .ref (ad 0)), (1, .int p0)] := hl
  unfold fX6_many at hf
  suffices hG : ∀ (H : Heap) (locs : List Loc), va_P D vwCl (wM cy ad S) H → va_S A s.heap H locs → W p l e (headSpec wsX6_many { frames := 10, cells := 0, slots := 0, locals := 221 }).room s m args below meth c H locs 0 0 (MQ below (QcI D A r (wM cy ad S')) args s 0 0 A) (F0 m 0 ls []) by exact hG s.heap [] hP va_S.rf
  clear hP hS
  intro H locs hP hS
  refine lv_iload_n hx hb dX6_many_0 rfl (lv_at hl 1 rfl) ?_
  by_cases c1 : p0 = 0
  · have hf := (if_pos c1).symm.trans hf
    refine lv_tableIn (off := 51) (tgt := 52) hx hb dX6_many_1 (by rw [c1]; decide) (by rw [c1]; decide) (by rw [c1]; rfl) (by decide) ?_
    refine lv_aload_n hx hb dX6_many_52 rfl (lv_at hl 0 rfl) ?_
    obtain ⟨r2, h3, hf⟩ := ob1_some hf
    refine kVi (As := []) (rest := []) ⟨hx, hb, hml, hown, hts⟩ (okX6_there l D cy ad A hD  S r2 h3) (cwV 0 hts gX6_many_X6_there rfl rfl rfl (by decide +kernel) ⟨Nat.le_of_ble_eq_true rfl, Nat.le_of_ble_eq_true rfl⟩) hK hP hS (va_recv hK.1 hP (ci := 6) (q := (RX6, TX6, 21)) rfl (atM0 cy ad S)) rfl hl.1 rfl (Nat.le_of_ble_eq_true rfl) dX6_many_53 (fun H locs hP hS => ?_)
    obtain ⟨r4, h5, hf⟩ := ob1_some hf
    refine kSi (As := [.int r2]) (rest := []) ⟨hx, hb, hml, hown, hts⟩ (okX6_size l D cy A (wM cy ad S) r2 r4 h5) (va_cwS 1 hts gX6_many_X6_size rfl rfl rfl (by decide +kernel) ⟨Nat.le_of_ble_eq_true rfl, Nat.le_of_ble_eq_true rfl⟩) hK hP hS rfl hl.1 rfl (Nat.le_of_ble_eq_true rfl) dX6_many_56 (fun H locs hP hS => ?_)
    obtain ⟨he, hS9⟩ := Prod.mk.inj (Option.some.inj hf)
    subst hS9
    exact rI hx hb hr hP hS he hlocks dX6_many_59
  · have hf := (if_neg c1).symm.trans hf
    by_cases c6 : p0 = 1
    · have hf := (if_pos c6).symm.trans hf
      refine lv_tableIn (off := 59) (tgt := 60) hx hb dX6_many_1 (by rw [c6]; decide) (by rw [c6]; decide) (by rw [c6]; rfl) (by decide) ?_
      refine lv_aload_n hx hb dX6_many_60 rfl (lv_at hl 0 rfl) ?_
      refine gfX6_5 hx hb hts (fun _ h => List.mem_cons_of_mem _ (List.mem_append_right _ h)) hown hK hP (hts (Cond.fieldLink RX6 68 "WhoSpeaksModel" "paragraphs" "I") (List.mem_of_getElem? (i := 1) rfl)) dX6_many_61 ?_
      obtain ⟨he, hS9⟩ := Prod.mk.inj (Option.some.inj hf)
      subst hS9
      exact rI hx hb hr hP hS he hlocks dX6_many_64
    · have hf := (if_neg c6).symm.trans hf
      by_cases c7 : p0 = 2
      · have hf := (if_pos c7).symm.trans hf
        refine lv_tableIn (off := 64) (tgt := 65) hx hb dX6_many_1 (by rw [c7]; decide) (by rw [c7]; decide) (by rw [c7]; rfl) (by decide) ?_
        refine lv_aload_n hx hb dX6_many_65 rfl (lv_at hl 0 rfl) ?_
        obtain ⟨r8, h9, hf⟩ := ob1_some hf
        refine kVi (As := []) (rest := []) ⟨hx, hb, hml, hown, hts⟩ (okX6_manySpeak l D cy ad A hD  S r8 h9) (cwV 0 hts gX6_many_X6_manySpeak rfl rfl rfl (by decide +kernel) ⟨Nat.le_of_ble_eq_true rfl, Nat.le_of_ble_eq_true rfl⟩) hK hP hS (va_recv hK.1 hP (ci := 6) (q := (RX6, TX6, 21)) rfl (atM0 cy ad S)) rfl hl.1 rfl (Nat.le_of_ble_eq_true rfl) dX6_many_66 (fun H locs hP hS => ?_)
        obtain ⟨he, hS9⟩ := Prod.mk.inj (Option.some.inj hf)
        subst hS9
        exact rI hx hb hr hP hS he hlocks dX6_many_69
      · have hf := (if_neg c7).symm.trans hf
        by_cases c10 : p0 = 3
        · have hf := (if_pos c10).symm.trans hf
          refine lv_tableIn (off := 69) (tgt := 70) hx hb dX6_many_1 (by rw [c10]; decide) (by rw [c10]; decide) (by rw [c10]; rfl) (by decide) ?_
          refine lv_aload_n hx hb dX6_many_70 rfl (lv_at hl 0 rfl) ?_
          obtain ⟨r11, h12, hf⟩ := ob1_some hf
          refine kVi (As := []) (rest := []) ⟨hx, hb, hml, hown, hts⟩ (okX6_runs l D cy ad A hD  S r11 h12) (cwV 0 hts gX6_many_X6_runs rfl rfl rfl (by decide +kernel) ⟨Nat.le_of_ble_eq_true rfl, Nat.le_of_ble_eq_true rfl⟩) hK hP hS (va_recv hK.1 hP (ci := 6) (q := (RX6, TX6, 21)) rfl (atM0 cy ad S)) rfl hl.1 rfl (Nat.le_of_ble_eq_true rfl) dX6_many_71 (fun H locs hP hS => ?_)
          obtain ⟨he, hS9⟩ := Prod.mk.inj (Option.some.inj hf)
          subst hS9
          exact rI hx hb hr hP hS he hlocks dX6_many_74
        · have hf := (if_neg c10).symm.trans hf
          by_cases c13 : p0 = 4
          · have hf := (if_pos c13).symm.trans hf
            refine lv_tableIn (off := 74) (tgt := 75) hx hb dX6_many_1 (by rw [c13]; decide) (by rw [c13]; decide) (by rw [c13]; rfl) (by decide) ?_
            refine lv_aload_n hx hb dX6_many_75 rfl (lv_at hl 0 rfl) ?_
            obtain ⟨r14, S16, h15, hf⟩ := ob2_some hf
            refine kVi (As := []) (rest := []) ⟨hx, hb, hml, hown, hts⟩ (okX6_manySure l D cy ad A hD  S r14 S16 h15) (cwV 0 hts gX6_many_X6_manySure rfl rfl rfl (by decide +kernel) ⟨Nat.le_of_ble_eq_true rfl, Nat.le_of_ble_eq_true rfl⟩) hK hP hS (va_recv hK.1 hP (ci := 6) (q := (RX6, TX6, 21)) rfl (atM0 cy ad S)) rfl hl.1 rfl (Nat.le_of_ble_eq_true rfl) dX6_many_76 (fun H locs hP hS => ?_)
            obtain ⟨he, hS9⟩ := Prod.mk.inj (Option.some.inj hf)
            subst hS9
            exact rI hx hb hr hP hS he hlocks dX6_many_79
          · have hf := (if_neg c13).symm.trans hf
            by_cases c17 : p0 = 5
            · have hf := (if_pos c17).symm.trans hf
              refine lv_tableIn (off := 79) (tgt := 80) hx hb dX6_many_1 (by rw [c17]; decide) (by rw [c17]; decide) (by rw [c17]; rfl) (by decide) ?_
              refine lv_aload_n hx hb dX6_many_80 rfl (lv_at hl 0 rfl) ?_
              obtain ⟨r18, h19, hf⟩ := ob1_some hf
              refine kVi (As := []) (rest := []) ⟨hx, hb, hml, hown, hts⟩ (okX6_manyHints l D cy ad A hD  S r18 h19) (cwV 0 hts gX6_many_X6_manyHints rfl rfl rfl (by decide +kernel) ⟨Nat.le_of_ble_eq_true rfl, Nat.le_of_ble_eq_true rfl⟩) hK hP hS (va_recv hK.1 hP (ci := 6) (q := (RX6, TX6, 21)) rfl (atM0 cy ad S)) rfl hl.1 rfl (Nat.le_of_ble_eq_true rfl) dX6_many_81 (fun H locs hP hS => ?_)
              obtain ⟨he, hS9⟩ := Prod.mk.inj (Option.some.inj hf)
              subst hS9
              exact rI hx hb hr hP hS he hlocks dX6_many_84
            · have hf := (if_neg c17).symm.trans hf
              by_cases c20 : p0 = 6
              · have hf := (if_pos c20).symm.trans hf
                refine lv_tableIn (off := 84) (tgt := 85) hx hb dX6_many_1 (by rw [c20]; decide) (by rw [c20]; decide) (by rw [c20]; rfl) (by decide) ?_
                refine lv_aload_n hx hb dX6_many_85 rfl (lv_at hl 0 rfl) ?_
                refine gfX6_4 hx hb hts (fun _ h => List.mem_cons_of_mem _ (List.mem_append_right _ h)) hown hK hP (hts (Cond.fieldLink RX6 96 "WhoSpeaksModel" "taped" "I") (List.mem_of_getElem? (i := 2) rfl)) dX6_many_86 ?_
                obtain ⟨he, hS9⟩ := Prod.mk.inj (Option.some.inj hf)
                subst hS9
                exact rI hx hb hr hP hS he hlocks dX6_many_89
              · have hf := (if_neg c20).symm.trans hf
                by_cases c21 : p0 = 7
                · have hf := (if_pos c21).symm.trans hf
                  refine lv_tableIn (off := 89) (tgt := 90) hx hb dX6_many_1 (by rw [c21]; decide) (by rw [c21]; decide) (by rw [c21]; rfl) (by decide) ?_
                  refine lv_aload_n hx hb dX6_many_90 rfl (lv_at hl 0 rfl) ?_
                  refine gfX6_1 hx hb hts (fun _ h => List.mem_cons_of_mem _ (List.mem_append_right _ h)) hown hK hP (hts (Cond.fieldLink RX6 89 "WhoSpeaksModel" "here" "I") (List.mem_of_getElem? (i := 3) rfl)) dX6_many_91 ?_
                  obtain ⟨he, hS9⟩ := Prod.mk.inj (Option.some.inj hf)
                  subst hS9
                  exact rI hx hb hr hP hS he hlocks dX6_many_94
                · have hf := (if_neg c21).symm.trans hf
                  by_cases c22 : p0 = 8
                  · have hf := (if_pos c22).symm.trans hf
                    refine lv_tableIn (off := 94) (tgt := 95) hx hb dX6_many_1 (by rw [c22]; decide) (by rw [c22]; decide) (by rw [c22]; rfl) (by decide) ?_
                    refine lv_aload_n hx hb dX6_many_95 rfl (lv_at hl 0 rfl) ?_
                    refine gfX6_2 hx hb hts (fun _ h => List.mem_cons_of_mem _ (List.mem_append_right _ h)) hown hK hP (hts (Cond.fieldLink RX6 13 "WhoSpeaksModel" "rules" "I") (List.mem_of_getElem? (i := 4) rfl)) dX6_many_96 ?_
                    obtain ⟨he, hS9⟩ := Prod.mk.inj (Option.some.inj hf)
                    subst hS9
                    exact rI hx hb hr hP hS he hlocks dX6_many_99
                  · have hf := (if_neg c22).symm.trans hf
                    refine lv_tableOut (tgt := 100) hx hb dX6_many_1 (by have n0 := ne_toInt c1; have z0 : (0 : Int32).toInt = 0 := rfl; have n1 := ne_toInt c6; have z1 : (1 : Int32).toInt = 1 := rfl; have n2 := ne_toInt c7; have z2 : (2 : Int32).toInt = 2 := rfl; have n3 := ne_toInt c10; have z3 : (3 : Int32).toInt = 3 := rfl; have n4 := ne_toInt c13; have z4 : (4 : Int32).toInt = 4 := rfl; have n5 := ne_toInt c17; have z5 : (5 : Int32).toInt = 5 := rfl; have n6 := ne_toInt c20; have z6 : (6 : Int32).toInt = 6 := rfl; have n7 := ne_toInt c21; have z7 : (7 : Int32).toInt = 7 := rfl; have n8 := ne_toInt c22; have z8 : (8 : Int32).toInt = 8 := rfl; omega) (by decide) ?_
                    refine lv_bipush (v := (-2)) hx hb dX6_many_100 (by decide) ?_
                    obtain ⟨he, hS9⟩ := Prod.mk.inj (Option.some.inj hf)
                    subst hS9
                    exact rI hx hb hr hP hS he hlocks dX6_many_102
