def fX0_fitting (p0 : Int64) (p1 : Int32) (p2 : Int64) : Int64 := (if p1 = 1 then p0 else (if p1 = 2 then (p2 - p0) else p2))
set_option maxHeartbeats 4000000 in
set_option maxRecDepth 100000 in
theorem okX0_fitting (l : Launch) (D : va_G) (cy : Nat → ClassId) (A : Nat → Prop) (w : va_W) (p0 : Int64) (p1 : Int32) (p2 : Int64) (r : Int64) (hf : fX0_fitting p0 p1 p2 = r) : ML l yX0_fitting wsX0_fitting { frames := 0, cells := 0, slots := 0, locals := 0 } D cy A w [.long p0, .int p1, .long p2] r w := by
  refine Met.ofW (cc := cX0_fitting) (maxL := 5) (ret := (some .long)) (by decide) rfl ?_
  intro p e s m args below meth c s₁ B hml hv
  obtain ⟨ha, hP, hK⟩ := hv
  have hx := B.exec
  have hb := B.bytes
  have hr := B.returns
  have hts := atoms_spec (ws := wsX0_fitting) B.pre
  have hown : s.vm.findClass RX0 = some m.cls := findClass_of_methodNamed B.named
  have hlocks := B.notSynchronized
  have hS : va_S A s.heap s.heap [] := va_S.rf
  obtain ⟨ls, hl, he0⟩ := ent (m := m) ha (n := 5) (Nat.le_of_ble_eq_true rfl)
  refine W.eq he0 ?_
  have hl : lv_has ls 5 [(0, .long p0), (2, .int p1), (3, .long p2)] := hl
  unfold fX0_fitting at hf
  suffices hG : ∀ (H : Heap) (locs : List Loc), va_P D vwCl w H → va_S A s.heap H locs → W p l e (headSpec wsX0_fitting { frames := 0, cells := 0, slots := 0, locals := 0 }).room s m args below meth c H locs 0 0 (MQ below (QcL D A r w) args s 0 0 A) (F0 m 0 ls []) by exact hG s.heap [] hP va_S.rf
  clear hP hS
  intro H locs hP hS
  refine lv_iload_n hx hb dX0_fitting_0 rfl (lv_at hl 1 rfl) ?_
  by_cases c1 : p1 = 1
  · have hf := (if_pos c1).symm.trans hf
    refine lv_lookup (off := 27) (tgt := 28) hx hb dX0_fitting_1 (by decide) (by rw [c1]; decide) (by decide) ?_
    refine lv_lload_n hx hb dX0_fitting_28 rfl (lv_at hl 0 rfl) ?_
    have he := hf
    exact rL hx hb hr hP hS he hlocks dX0_fitting_29
  · have hf := (if_neg c1).symm.trans hf
    by_cases c2 : p1 = 2
    · have hf := (if_pos c2).symm.trans hf
      refine lv_lookup (off := 29) (tgt := 30) hx hb dX0_fitting_1 (by decide) (by rw [c2]; decide) (by decide) ?_
      refine lv_lload_n hx hb dX0_fitting_30 rfl (lv_at hl 2 rfl) ?_
      refine lv_lload_n hx hb dX0_fitting_31 rfl (lv_at hl 0 rfl) ?_
      refine lv_lsub hx hb dX0_fitting_32 ?_
      have he := hf
      exact rL hx hb hr hP hS he hlocks dX0_fitting_33
    · have hf := (if_neg c2).symm.trans hf
      refine lv_lookup (off := 33) (tgt := 34) hx hb dX0_fitting_1 (by decide) ?_ (by decide) ?_
      · have n1 := ne_toInt c1
        have z1 : (1 : Int32).toInt = 1 := rfl
        have n2 := ne_toInt c2
        have z2 : (2 : Int32).toInt = 2 := rfl
        show Op.lookupswitch.offset [(1, 27), (2, 29)] 33 p1.toInt = 33
        rw [Op.lookupswitch.offset_cons, if_neg (by omega), Op.lookupswitch.offset_cons, if_neg (by omega), Op.lookupswitch.offset_nil]
      · refine lv_lload_n hx hb dX0_fitting_34 rfl (lv_at hl 2 rfl) ?_
        have he := hf
        exact rL hx hb hr hP hS he hlocks dX0_fitting_35

def bX0_stepOver_13_66 (k26 : Int32 × Int32 × Int32 × Int64 × Int64 × Int32 × XS → Option (Int64 × XS)) (x2 : Int32) (x3 : Int32) (x4 : Int32) (x5 : Int64) (x7 : Int64) (x9 : Int32) (x10 : Int64) (S : XS) : Option (Int64 × XS) := (bnd (((x2 * 8) + x9)) (fun y53 => (if (bi (fX5_isWithin y53 128)) = 0 then (bnd ((x7 + x10)) (fun y56 => (k26 (x2, x3, x4, x5, y56, (x9 + 1), S)))) else (ck y53 128 (bnd (xlW S 13 y53.toNatClampNeg x10) (fun S57 => (bnd ((x7 + x10)) (fun y59 => (k26 (x2, x3, x4, x5, y59, (x9 + 1), S57))))))))))
def bX0_stepOver_13_26  (k26 : Int32 × Int32 × Int32 × Int64 × Int64 × Int32 × XS → Option (Int64 × XS)) (x2 : Int32) (x3 : Int32) (x4 : Int32) (x5 : Int64) (x7 : Int64) (x9 : Int32) (S : XS) : Option (Int64 × XS) := (if 8 ≤ x9 then (some (x7, S)) else (ob1 (fX0_ownSet x2 S) (fun r61 => (if (r61 &&& (fX5_bitOf x9)) = 0 then (bX0_stepOver_13_66 k26 (x2) (x3) (x4) (x5) (x7) (x9) (0) S) else (ob1 (fX0_countAt_13 x3 x9 S) (fun r65 => (bnd ((fX0_fitting r65 x4 x5)) (fun y68 => (bX0_stepOver_13_66 k26 (x2) (x3) (x4) (x5) (x7) (x9) (y68) S)))))))))
def fX0_stepOver_13 (p1 : Int32) (p2 : Int32) (p3 : Int32) (p4 : Int64) (S : XS) : Option (Int64 × XS) := (if (bi (fX0_holds p1 S)) = 0 then (some (p4, S)) else (ck p1 16 (if (xa S 8 p1.toNatClampNeg) = 0 then (some (p4, S)) else (lp (fun k q => bX0_stepOver_13_26  k q.1 q.2.1 q.2.2.1 q.2.2.2.1 q.2.2.2.2.1 q.2.2.2.2.2.1 q.2.2.2.2.2.2) FU (p1, p2, p3, p4, 0, 0, S)))))
set_option maxHeartbeats 4000000 in
set_option maxRecDepth 100000 in
theorem okX0_stepOver_13 (l : Launch) (D : va_G) (cy : Nat → ClassId) (ad : Nat → Nat) (A : Nat → Prop) (hD : ∀ S, va_D A (wX cy ad S)) (p1 : Int32) (p2 : Int32) (p3 : Int32) (p4 : Int64) (S : XS) (r : Int64) (S' : XS) (hf : fX0_stepOver_13 p1 p2 p3 p4 S = some (r, S')) : ML l yX0_stepOver wsX0_stepOver { frames := 3, cells := 0, slots := 0, locals := 63 } D cy A (wX cy ad S) [.ref (ad 7), .ref (ad 13), .int p1, .int p2, .int p3, .long p4] r (wX cy ad S') := by
  refine Met.ofW (cc := cX0_stepOver) (maxL := 13) (ret := (some .long)) (by decide) rfl ?_
  intro p e s m args below meth c s₁ B hml hv
  obtain ⟨ha, hP, hK⟩ := hv
  have hx := B.exec
  have hb := B.bytes
  have hr := B.returns
  have hts := atoms_spec (ws := wsX0_stepOver) B.pre
  have hown : s.vm.findClass RX0 = some m.cls := findClass_of_methodNamed B.named
  have hlocks := B.notSynchronized
  have hS : va_S A s.heap s.heap [] := va_S.rf
  obtain ⟨ls, hl, he0⟩ := ent (m := m) ha (n := 13) (Nat.le_of_ble_eq_true rfl)
  refine W.eq he0 ?_
  have hl : lv_has ls 13 [(0, .ref (ad 7)), (1, .ref (ad 13)), (2, .int p1), (3, .int p2), (4, .int p3), (5, .long p4)] := hl
  have K66 : ∀ (k26 : Int32 × Int32 × Int32 × Int64 × Int64 × Int32 × XS → Option (Int64 × XS)), (∀ (x2 : Int32) (x3 : Int32) (x4 : Int32) (x5 : Int64) (x7 : Int64) (x9 : Int32) (S : XS) (H : Heap) (locs : List Loc) (ls : Array Slot), va_P D vwCl (wX cy ad S) H → va_S A s.heap H locs → lv_has ls 13 [(0, .ref (ad 7)), (1, .ref (ad 13)), (2, .int x2), (3, .int x3), (4, .int x4), (5, .long x5), (7, .long x7), (9, .int x9)] → k26 (x2, x3, x4, x5, x7, x9, S) = some (r, S') → W p l e (headSpec wsX0_stepOver { frames := 3, cells := 0, slots := 0, locals := 63 }).room s m args below meth c H locs 0 0 (MQ below (QcL D A r (wX cy ad S')) args s 0 0 A) (F0 m 26 ls [])) → ∀ (x2 : Int32) (x3 : Int32) (x4 : Int32) (x5 : Int64) (x7 : Int64) (x9 : Int32) (x10 : Int64) (S : XS) (H : Heap) (locs : List Loc) (ls : Array Slot), va_P D vwCl (wX cy ad S) H → va_S A s.heap H locs → lv_has ls 13 [(0, .ref (ad 7)), (1, .ref (ad 13)), (2, .int x2), (3, .int x3), (4, .int x4), (5, .long x5), (7, .long x7), (9, .int x9), (10, .long x10)] → bX0_stepOver_13_66 k26 x2 x3 x4 x5 x7 x9 x10 S = some (r, S') → W p l e (headSpec wsX0_stepOver { frames := 3, cells := 0, slots := 0, locals := 63 }).room s m args below meth c H locs 0 0 (MQ below (QcL D A r (wX cy ad S')) args s 0 0 A) (F0 m 66 ls []) := by
    intro k26 ih26 x2 x3 x4 x5 x7 x9 x10 S H locs ls hP hS hl hf
    unfold bX0_stepOver_13_66 at hf
    refine lv_iload_n hx hb dX0_stepOver_66 rfl (lv_at hl 2 rfl) ?_
    refine lv_bipush (v := 8) hx hb dX0_stepOver_67 (by decide) ?_
    refine lv_imul hx hb dX0_stepOver_69 ?_
    refine lv_iload hx hb dX0_stepOver_70 (lv_at hl 7 rfl) ?_
    refine lv_iadd hx hb dX0_stepOver_72 ?_
    refine lv_topi (fun y53 ey53 => ?_)
    have hf := bnd_of ey53 hf
    refine lv_istore (lv' := [(12, .int y53), (0, .ref (ad 7)), (1, .ref (ad 13)), (2, .int x2), (3, .int x3), (4, .int x4), (5, .long x5), (7, .long x7), (9, .int x9), (10, .long x10)]) hx hb dX0_stepOver_73 hl (by decide) rfl (fun ls hl => ?_)
    refine lv_iload hx hb dX0_stepOver_75 (lv_at hl 0 rfl) ?_
    refine lv_aload_n hx hb dX0_stepOver_77 rfl (lv_at hl 2 rfl) ?_
    refine anX13 hx hb hK hP dX0_stepOver_78 ?_
    refine kNi (As := [.int y53, .int 128]) (rest := []) ⟨hx, hb, hml, hown, hts⟩ (okX5_isWithin l D cy A (wX cy ad S) y53 128 _ rfl) ⟨va_cnB 2 hts gX0_stepOver_X5_isWithin_n42 rfl rfl rfl hK.2.2.2.2.1 (hts (Cond.initialized RX5) (List.mem_of_getElem? (i := 9) rfl)) (by decide +kernel) ⟨Nat.le_of_ble_eq_true rfl, Nat.le_of_ble_eq_true rfl⟩, (hts (Cond.static yX5_isWithin) (List.mem_of_getElem? (i := 8) rfl)), trivial⟩ hK hP hS rfl hl.1 rfl (Nat.le_of_ble_eq_true rfl) dX0_stepOver_79 (fun H locs hP hS => ?_)
    refine lv_if_eq (tgt := 91) hx hb dX0_stepOver_82 (by decide) (fun c55 => ?_) (fun c55 => ?_)
    · have hf := (if_pos c55).symm.trans hf
      refine lv_lload hx hb dX0_stepOver_91 (lv_at hl 7 rfl) ?_
      refine lv_lload hx hb dX0_stepOver_93 (lv_at hl 9 rfl) ?_
      refine lv_ladd hx hb dX0_stepOver_95 ?_
      refine lv_topl (fun y56 ey56 => ?_)
      have hf := bnd_of ey56 hf
      refine lv_lstore (lv' := [(7, .long y56), (12, .int y53), (0, .ref (ad 7)), (1, .ref (ad 13)), (2, .int x2), (3, .int x3), (4, .int x4), (5, .long x5), (9, .int x9), (10, .long x10)]) hx hb dX0_stepOver_96 hl (by decide) rfl (fun ls hl => ?_)
      refine lv_iinc (v := (x9 + 1)) (lv' := [(9, .int (x9 + 1)), (7, .long y56), (12, .int y53), (0, .ref (ad 7)), (1, .ref (ad 13)), (2, .int x2), (3, .int x3), (4, .int x4), (5, .long x5), (10, .long x10)]) hx hb dX0_stepOver_98 hl (k := 8) rfl rfl (by decide) rfl (fun ls hl => ?_)
      refine lv_goto (tgt := 26) hx hb dX0_stepOver_101 (by decide) ?_
      exact ih26 (x2) (x3) (x4) (x5) (y56) ((x9 + 1)) S H locs ls hP hS (lv_sub hl [3, 4, 5, 6, 7, 8, 1, 0] rfl) hf
    · have hf := (if_neg c55).symm.trans hf
      refine lv_aload_n hx hb dX0_stepOver_85 rfl (lv_at hl 2 rfl) ?_
      refine lv_iload hx hb dX0_stepOver_86 (lv_at hl 0 rfl) ?_
      refine lv_lload hx hb dX0_stepOver_88 (lv_at hl 9 rfl) ?_
      obtain ⟨c58, hf⟩ := ck_some hf
      refine asX13 (v := x10) hx hb hK hP hD hS c58 dX0_stepOver_90 (fun S57 eS57 H locs hP hS => ?_)
      have hf := bnd_of eS57 hf
      refine lv_lload hx hb dX0_stepOver_91 (lv_at hl 7 rfl) ?_
      refine lv_lload hx hb dX0_stepOver_93 (lv_at hl 9 rfl) ?_
      refine lv_ladd hx hb dX0_stepOver_95 ?_
      refine lv_topl (fun y59 ey59 => ?_)
      have hf := bnd_of ey59 hf
      refine lv_lstore (lv' := [(7, .long y59), (12, .int y53), (0, .ref (ad 7)), (1, .ref (ad 13)), (2, .int x2), (3, .int x3), (4, .int x4), (5, .long x5), (9, .int x9), (10, .long x10)]) hx hb dX0_stepOver_96 hl (by decide) rfl (fun ls hl => ?_)
      refine lv_iinc (v := (x9 + 1)) (lv' := [(9, .int (x9 + 1)), (7, .long y59), (12, .int y53), (0, .ref (ad 7)), (1, .ref (ad 13)), (2, .int x2), (3, .int x3), (4, .int x4), (5, .long x5), (10, .long x10)]) hx hb dX0_stepOver_98 hl (k := 8) rfl rfl (by decide) rfl (fun ls hl => ?_)
      refine lv_goto (tgt := 26) hx hb dX0_stepOver_101 (by decide) ?_
      exact ih26 (x2) (x3) (x4) (x5) (y59) ((x9 + 1)) S57 H locs ls hP hS (lv_sub hl [3, 4, 5, 6, 7, 8, 1, 0] rfl) hf
  have K26 : ∀ (n : Nat), ∀ (x2 : Int32) (x3 : Int32) (x4 : Int32) (x5 : Int64) (x7 : Int64) (x9 : Int32) (S : XS) (H : Heap) (locs : List Loc) (ls : Array Slot), va_P D vwCl (wX cy ad S) H → va_S A s.heap H locs → lv_has ls 13 [(0, .ref (ad 7)), (1, .ref (ad 13)), (2, .int x2), (3, .int x3), (4, .int x4), (5, .long x5), (7, .long x7), (9, .int x9)] → lp (fun k q => bX0_stepOver_13_26  k q.1 q.2.1 q.2.2.1 q.2.2.2.1 q.2.2.2.2.1 q.2.2.2.2.2.1 q.2.2.2.2.2.2) n (x2, x3, x4, x5, x7, x9, S) = some (r, S') → W p l e (headSpec wsX0_stepOver { frames := 3, cells := 0, slots := 0, locals := 63 }).room s m args below meth c H locs 0 0 (MQ below (QcL D A r (wX cy ad S')) args s 0 0 A) (F0 m 26 ls []) := by
    intro  n
    induction n with
    | zero =>
      intro x2 x3 x4 x5 x7 x9 S H locs ls hP hS hl hf
      cases hf
    | succ n ih26 =>
      intro x2 x3 x4 x5 x7 x9 S H locs ls hP hS hl hf
      have hf : bX0_stepOver_13_26  (lp (fun k q => bX0_stepOver_13_26  k q.1 q.2.1 q.2.2.1 q.2.2.2.1 q.2.2.2.2.1 q.2.2.2.2.2.1 q.2.2.2.2.2.2) n) x2 x3 x4 x5 x7 x9 S = some (r, S') := hf
      generalize lp (fun k q => bX0_stepOver_13_26  k q.1 q.2.1 q.2.2.1 q.2.2.2.1 q.2.2.2.2.1 q.2.2.2.2.2.1 q.2.2.2.2.2.2) n = k26 at hf ih26
      unfold bX0_stepOver_13_26 at hf
      refine lv_iload hx hb dX0_stepOver_26 (lv_at hl 7 rfl) ?_
      refine lv_bipush (v := 8) hx hb dX0_stepOver_28 (by decide) ?_
      refine lv_icmp_ge (tgt := 104) hx hb dX0_stepOver_30 (by decide) (fun c60 => ?_) (fun c60 => ?_)
      · have hf := (if_pos c60).symm.trans hf
        refine lv_lload hx hb dX0_stepOver_104 (lv_at hl 6 rfl) ?_
        obtain ⟨he, hS9⟩ := Prod.mk.inj (Option.some.inj hf)
        subst hS9
        exact rL hx hb hr hP hS he hlocks dX0_stepOver_106
      · have hf := (if_neg c60).symm.trans hf
        refine lv_lconst (v := 0) hx hb dX0_stepOver_33 (by decide) ?_
        refine lv_lstore (lv' := [(10, .long 0), (0, .ref (ad 7)), (1, .ref (ad 13)), (2, .int x2), (3, .int x3), (4, .int x4), (5, .long x5), (7, .long x7), (9, .int x9)]) hx hb dX0_stepOver_34 hl (by decide) rfl (fun ls hl => ?_)
        refine lv_aload_n hx hb dX0_stepOver_36 rfl (lv_at hl 1 rfl) ?_
        refine lv_iload_n hx hb dX0_stepOver_37 rfl (lv_at hl 3 rfl) ?_
        obtain ⟨r61, h62, hf⟩ := ob1_some hf
        refine kVi (As := [.int x2]) (rest := []) ⟨hx, hb, hml, hown, hts⟩ (okX0_ownSet l D cy ad A hD x2 S r61 h62) (cwV 1 hts gX0_stepOver_X0_ownSet rfl rfl rfl (by decide +kernel) ⟨Nat.le_of_ble_eq_true rfl, Nat.le_of_ble_eq_true rfl⟩) hK hP hS (va_recv hK.1 hP (ci := 0) (q := (RX0, TX0, 9)) rfl (atX7 cy ad S)) rfl hl.1 rfl (Nat.le_of_ble_eq_true rfl) dX0_stepOver_38 (fun H locs hP hS => ?_)
        refine lv_iload hx hb dX0_stepOver_41 (lv_at hl 8 rfl) ?_
        refine kNi (As := [.int x9]) (rest := [.int r61]) ⟨hx, hb, hml, hown, hts⟩ (okX5_bitOf l D cy A (wX cy ad S) x9 _ rfl) ⟨va_cnB 1 hts gX0_stepOver_X5_bitOf_n54 rfl rfl rfl hK.2.2.2.2.2.1 (hts (Cond.initialized RX5) (List.mem_of_getElem? (i := 9) rfl)) (by decide +kernel) ⟨Nat.le_of_ble_eq_true rfl, Nat.le_of_ble_eq_true rfl⟩, (hts (Cond.static yX5_bitOf) (List.mem_of_getElem? (i := 16) rfl)), trivial⟩ hK hP hS rfl hl.1 rfl (Nat.le_of_ble_eq_true rfl) dX0_stepOver_43 (fun H locs hP hS => ?_)
        refine lv_iand hx hb dX0_stepOver_46 ?_
        refine lv_if_eq (tgt := 66) hx hb dX0_stepOver_47 (by decide) (fun c64 => ?_) (fun c64 => ?_)
        · have hf := (if_pos c64).symm.trans hf
          exact K66 k26 ih26 (x2) (x3) (x4) (x5) (x7) (x9) (0) S H locs ls hP hS (lv_sub hl [1, 2, 3, 4, 5, 6, 7, 8, 0] rfl) hf
        · have hf := (if_neg c64).symm.trans hf
          refine lv_aload_n hx hb dX0_stepOver_50 rfl (lv_at hl 2 rfl) ?_
          refine lv_iload_n hx hb dX0_stepOver_51 rfl (lv_at hl 4 rfl) ?_
          refine lv_iload hx hb dX0_stepOver_52 (lv_at hl 8 rfl) ?_
          obtain ⟨r65, h66, hf⟩ := ob1_some hf
          refine kSl (As := [.ref (ad 13), .int x3, .int x9]) (rest := []) ⟨hx, hb, hml, hown, hts⟩ (okX0_countAt_13 l D cy ad A hD x3 x9 S r65 h66) (va_cwS 3 hts gX0_stepOver_X0_countAt rfl rfl rfl (by decide +kernel) ⟨Nat.le_of_ble_eq_true rfl, Nat.le_of_ble_eq_true rfl⟩) hK hP hS rfl hl.1 rfl (Nat.le_of_ble_eq_true rfl) dX0_stepOver_54 (fun H locs hP hS => ?_)
          refine lv_iload hx hb dX0_stepOver_57 (lv_at hl 5 rfl) ?_
          refine lv_lload hx hb dX0_stepOver_59 (lv_at hl 6 rfl) ?_
          refine kSl (As := [.long r65, .int x4, .long x5]) (rest := []) ⟨hx, hb, hml, hown, hts⟩ (okX0_fitting l D cy A (wX cy ad S) r65 x4 x5 _ rfl) (va_cwS 3 hts gX0_stepOver_X0_fitting rfl rfl rfl (by decide +kernel) ⟨Nat.le_of_ble_eq_true rfl, Nat.le_of_ble_eq_true rfl⟩) hK hP hS rfl hl.1 rfl (Nat.le_of_ble_eq_true rfl) dX0_stepOver_61 (fun H locs hP hS => ?_)
          refine lv_topl (fun y68 ey68 => ?_)
          have hf := bnd_of ey68 hf
          refine lv_lstore (lv' := [(10, .long y68), (0, .ref (ad 7)), (1, .ref (ad 13)), (2, .int x2), (3, .int x3), (4, .int x4), (5, .long x5), (7, .long x7), (9, .int x9)]) hx hb dX0_stepOver_64 hl (by decide) rfl (fun ls hl => ?_)
          exact K66 k26 ih26 (x2) (x3) (x4) (x5) (x7) (x9) (y68) S H locs ls hP hS (lv_sub hl [1, 2, 3, 4, 5, 6, 7, 8, 0] rfl) hf
  unfold fX0_stepOver_13 at hf
  suffices hG : ∀ (H : Heap) (locs : List Loc), va_P D vwCl (wX cy ad S) H → va_S A s.heap H locs → W p l e (headSpec wsX0_stepOver { frames := 3, cells := 0, slots := 0, locals := 63 }).room s m args below meth c H locs 0 0 (MQ below (QcL D A r (wX cy ad S')) args s 0 0 A) (F0 m 0 ls []) by exact hG s.heap [] hP va_S.rf
  clear hP hS
  intro H locs hP hS
  refine lv_aload_n hx hb dX0_stepOver_0 rfl (lv_at hl 0 rfl) ?_
  refine lv_iload_n hx hb dX0_stepOver_1 rfl (lv_at hl 2 rfl) ?_
  refine kVi (As := [.int p1]) (rest := []) ⟨hx, hb, hml, hown, hts⟩ (okX0_holds l D cy ad A hD p1 S _ rfl) (cwV 1 hts gX0_stepOver_X0_holds rfl rfl rfl (by decide +kernel) ⟨Nat.le_of_ble_eq_true rfl, Nat.le_of_ble_eq_true rfl⟩) hK hP hS (va_recv hK.1 hP (ci := 0) (q := (RX0, TX0, 9)) rfl (atX7 cy ad S)) rfl hl.1 rfl (Nat.le_of_ble_eq_true rfl) dX0_stepOver_2 (fun H locs hP hS => ?_)
  refine lv_if_eq (tgt := 17) hx hb dX0_stepOver_5 (by decide) (fun c70 => ?_) (fun c70 => ?_)
  · have hf := (if_pos c70).symm.trans hf
    refine lv_lload hx hb dX0_stepOver_17 (lv_at hl 5 rfl) ?_
    obtain ⟨he, hS9⟩ := Prod.mk.inj (Option.some.inj hf)
    subst hS9
    exact rL hx hb hr hP hS he hlocks dX0_stepOver_19
  · have hf := (if_neg c70).symm.trans hf
    refine lv_aload_n hx hb dX0_stepOver_8 rfl (lv_at hl 0 rfl) ?_
    refine gfX0_0 hx hb hts (fun _ h => List.mem_cons_of_mem _ (List.mem_append_right _ h)) hown hK hP (hts (Cond.fieldLink RX0 9 "WhoSpeaks$Chain" "speaking" "[Z") (List.mem_of_getElem? (i := 1) rfl)) dX0_stepOver_9 ?_
    refine lv_iload_n hx hb dX0_stepOver_12 rfl (lv_at hl 2 rfl) ?_
    obtain ⟨c71, hf⟩ := ck_some hf
    refine alX8 hx hb hK hP c71 dX0_stepOver_13 ?_
    refine lv_if_ne (tgt := 20) hx hb dX0_stepOver_14 (by decide) (fun c72 => ?_) (fun c72 => ?_)
    · have hf := (if_neg c72).symm.trans hf
      refine lv_lconst (v := 0) hx hb dX0_stepOver_20 (by decide) ?_
      refine lv_lstore (lv' := [(7, .long 0), (0, .ref (ad 7)), (1, .ref (ad 13)), (2, .int p1), (3, .int p2), (4, .int p3), (5, .long p4)]) hx hb dX0_stepOver_21 hl (by decide) rfl (fun ls hl => ?_)
      refine lv_iconst (v := 0) hx hb dX0_stepOver_23 (by decide) ?_
      refine lv_istore (lv' := [(9, .int 0), (7, .long 0), (0, .ref (ad 7)), (1, .ref (ad 13)), (2, .int p1), (3, .int p2), (4, .int p3), (5, .long p4)]) hx hb dX0_stepOver_24 hl (by decide) rfl (fun ls hl => ?_)
      exact K26  FU (p1) (p2) (p3) (p4) (0) (0) S H locs ls hP hS (lv_sub hl [2, 3, 4, 5, 6, 7, 1, 0] rfl) hf
    · have hf := (if_pos c72).symm.trans hf
      refine lv_lload hx hb dX0_stepOver_17 (lv_at hl 5 rfl) ?_
      obtain ⟨he, hS9⟩ := Prod.mk.inj (Option.some.inj hf)
      subst hS9
      exact rL hx hb hr hP hS he hlocks dX0_stepOver_19

def bX0_waysWithin_27 (k5 : Int32 × Int32 × Int64 × Int32 × XS → Option (Int64 × XS)) (x1 : Int32) (x2 : Int32) (x3 : Int64) (x5 : Int32) (s0 : Int32) (S : XS) : Option (Int64 × XS) := (ob2 (fX0_stepOver_13 x5 (x5 - 1) s0 x3 S) (fun r5 S7 => (k5 (x1, x2, r5, (x5 + 1), S7))))
def bX0_waysWithin_5  (k5 : Int32 × Int32 × Int64 × Int32 × XS → Option (Int64 × XS)) (x1 : Int32) (x2 : Int32) (x3 : Int64) (x5 : Int32) (S : XS) : Option (Int64 × XS) := (if x2 < x5 then (some (x3, S)) else (if x5 = x1 then (bX0_waysWithin_27 k5 (x1) (x2) (x3) (x5) (0) S) else (ob1 (fX0_linkAt x5 S) (fun r10 => (bX0_waysWithin_27 k5 (x1) (x2) (x3) (x5) (r10) S)))))
def fX0_waysWithin (p0 : Int32) (p1 : Int32) (S : XS) : Option (Int64 × XS) := (lp (fun k q => bX0_waysWithin_5  k q.1 q.2.1 q.2.2.1 q.2.2.2.1 q.2.2.2.2) FU (p0, p1, 1, p0, S))
set_option maxHeartbeats 4000000 in
set_option maxRecDepth 100000 in
theorem okX0_waysWithin (l : Launch) (D : va_G) (cy : Nat → ClassId) (ad : Nat → Nat) (A : Nat → Prop) (hD : ∀ S, va_D A (wX cy ad S)) (p0 : Int32) (p1 : Int32) (S : XS) (r : Int64) (S' : XS) (hf : fX0_waysWithin p0 p1 S = some (r, S')) : ML l yX0_waysWithin wsX0_waysWithin { frames := 4, cells := 0, slots := 0, locals := 95 } D cy A (wX cy ad S) [.ref (ad 7), .int p0, .int p1] r (wX cy ad S') := by
  refine Met.ofW (cc := cX0_waysWithin) (maxL := 7) (ret := (some .long)) (by decide) rfl ?_
  intro p e s m args below meth c s₁ B hml hv
  obtain ⟨ha, hP, hK⟩ := hv
  have hx := B.exec
  have hb := B.bytes
  have hr := B.returns
  have hts := atoms_spec (ws := wsX0_waysWithin) B.pre
  have hown : s.vm.findClass RX0 = some m.cls := findClass_of_methodNamed B.named
  have hlocks := B.notSynchronized
  have hS : va_S A s.heap s.heap [] := va_S.rf
  obtain ⟨ls, hl, he0⟩ := ent (m := m) ha (n := 7) (Nat.le_of_ble_eq_true rfl)
  refine W.eq he0 ?_
  have hl : lv_has ls 7 [(0, .ref (ad 7)), (1, .int p0), (2, .int p1)] := hl
  have K27 : ∀ (k5 : Int32 × Int32 × Int64 × Int32 × XS → Option (Int64 × XS)), (∀ (x1 : Int32) (x2 : Int32) (x3 : Int64) (x5 : Int32) (S : XS) (H : Heap) (locs : List Loc) (ls : Array Slot), va_P D vwCl (wX cy ad S) H → va_S A s.heap H locs → lv_has ls 7 [(0, .ref (ad 7)), (1, .int x1), (2, .int x2), (3, .long x3), (5, .int x5)] → k5 (x1, x2, x3, x5, S) = some (r, S') → W p l e (headSpec wsX0_waysWithin { frames := 4, cells := 0, slots := 0, locals := 95 }).room s m args below meth c H locs 0 0 (MQ below (QcL D A r (wX cy ad S')) args s 0 0 A) (F0 m 5 ls [])) → ∀ (x1 : Int32) (x2 : Int32) (x3 : Int64) (x5 : Int32) (s0 : Int32) (S : XS) (H : Heap) (locs : List Loc) (ls : Array Slot), va_P D vwCl (wX cy ad S) H → va_S A s.heap H locs → lv_has ls 7 [(0, .ref (ad 7)), (1, .int x1), (2, .int x2), (3, .long x3), (5, .int x5)] → bX0_waysWithin_27 k5 x1 x2 x3 x5 s0 S = some (r, S') → W p l e (headSpec wsX0_waysWithin { frames := 4, cells := 0, slots := 0, locals := 95 }).room s m args below meth c H locs 0 0 (MQ below (QcL D A r (wX cy ad S')) args s 0 0 A) (F0 m 27 ls [.int s0]) := by
    intro k5 ih5 x1 x2 x3 x5 s0 S H locs ls hP hS hl hf
    unfold bX0_waysWithin_27 at hf
    refine lv_istore (lv' := [(6, .int s0), (0, .ref (ad 7)), (1, .int x1), (2, .int x2), (3, .long x3), (5, .int x5)]) hx hb dX0_waysWithin_27 hl (by decide) rfl (fun ls hl => ?_)
    refine lv_aload_n hx hb dX0_waysWithin_29 rfl (lv_at hl 1 rfl) ?_
    refine lv_aload_n hx hb dX0_waysWithin_30 rfl (lv_at hl 1 rfl) ?_
    refine gfX0_5 hx hb hts (fun _ h => List.mem_cons_of_mem _ (List.mem_append_right _ h)) hown hK hP (hts (Cond.fieldLink RX0 28 "WhoSpeaks$Chain" "heads" "[J") (List.mem_of_getElem? (i := 1) rfl)) dX0_waysWithin_31 ?_
    refine lv_iload hx hb dX0_waysWithin_34 (lv_at hl 5 rfl) ?_
    refine lv_iload hx hb dX0_waysWithin_36 (lv_at hl 5 rfl) ?_
    refine lv_iconst (v := 1) hx hb dX0_waysWithin_38 (by decide) ?_
    refine lv_isub hx hb dX0_waysWithin_39 ?_
    refine lv_iload hx hb dX0_waysWithin_40 (lv_at hl 0 rfl) ?_
    refine lv_lload_n hx hb dX0_waysWithin_42 rfl (lv_at hl 4 rfl) ?_
    obtain ⟨r5, S7, h6, hf⟩ := ob2_some hf
    refine kVl (As := [.ref (ad 13), .int x5, .int (x5 - 1), .int s0, .long x3]) (rest := []) ⟨hx, hb, hml, hown, hts⟩ (okX0_stepOver_13 l D cy ad A hD x5 (x5 - 1) s0 x3 S r5 S7 h6) (cwV 5 hts gX0_waysWithin_X0_stepOver rfl rfl rfl (by decide +kernel) ⟨Nat.le_of_ble_eq_true rfl, Nat.le_of_ble_eq_true rfl⟩) hK hP hS (va_recv hK.1 hP (ci := 0) (q := (RX0, TX0, 9)) rfl (atX7 cy ad S)) rfl hl.1 rfl (Nat.le_of_ble_eq_true rfl) dX0_waysWithin_43 (fun H locs hP hS => ?_)
    refine lv_lstore_n (lv' := [(3, .long r5), (6, .int s0), (0, .ref (ad 7)), (1, .int x1), (2, .int x2), (5, .int x5)]) hx hb dX0_waysWithin_46 rfl hl (by decide) rfl (fun ls hl => ?_)
    refine lv_iinc (v := (x5 + 1)) (lv' := [(5, .int (x5 + 1)), (3, .long r5), (6, .int s0), (0, .ref (ad 7)), (1, .int x1), (2, .int x2)]) hx hb dX0_waysWithin_47 hl (k := 5) rfl rfl (by decide) rfl (fun ls hl => ?_)
    refine lv_goto (tgt := 5) hx hb dX0_waysWithin_50 (by decide) ?_
    exact ih5 (x1) (x2) (r5) ((x5 + 1)) S7 H locs ls hP hS (lv_sub hl [3, 4, 5, 1, 0] rfl) hf
  have K5 : ∀ (n : Nat), ∀ (x1 : Int32) (x2 : Int32) (x3 : Int64) (x5 : Int32) (S : XS) (H : Heap) (locs : List Loc) (ls : Array Slot), va_P D vwCl (wX cy ad S) H → va_S A s.heap H locs → lv_has ls 7 [(0, .ref (ad 7)), (1, .int x1), (2, .int x2), (3, .long x3), (5, .int x5)] → lp (fun k q => bX0_waysWithin_5  k q.1 q.2.1 q.2.2.1 q.2.2.2.1 q.2.2.2.2) n (x1, x2, x3, x5, S) = some (r, S') → W p l e (headSpec wsX0_waysWithin { frames := 4, cells := 0, slots := 0, locals := 95 }).room s m args below meth c H locs 0 0 (MQ below (QcL D A r (wX cy ad S')) args s 0 0 A) (F0 m 5 ls []) := by
    intro  n
    induction n with
    | zero =>
      intro x1 x2 x3 x5 S H locs ls hP hS hl hf
      cases hf
    | succ n ih5 =>
      intro x1 x2 x3 x5 S H locs ls hP hS hl hf
      have hf : bX0_waysWithin_5  (lp (fun k q => bX0_waysWithin_5  k q.1 q.2.1 q.2.2.1 q.2.2.2.1 q.2.2.2.2) n) x1 x2 x3 x5 S = some (r, S') := hf
      generalize lp (fun k q => bX0_waysWithin_5  k q.1 q.2.1 q.2.2.1 q.2.2.2.1 q.2.2.2.2) n = k5 at hf ih5
      unfold bX0_waysWithin_5 at hf
      refine lv_iload hx hb dX0_waysWithin_5 (lv_at hl 4 rfl) ?_
      refine lv_iload_n hx hb dX0_waysWithin_7 rfl (lv_at hl 2 rfl) ?_
      refine lv_icmp_gt (tgt := 53) hx hb dX0_waysWithin_8 (by decide) (fun c8 => ?_) (fun c8 => ?_)
      · have hf := (if_pos c8).symm.trans hf
        refine lv_lload_n hx hb dX0_waysWithin_53 rfl (lv_at hl 3 rfl) ?_
        obtain ⟨he, hS9⟩ := Prod.mk.inj (Option.some.inj hf)
        subst hS9
        exact rL hx hb hr hP hS he hlocks dX0_waysWithin_54
      · have hf := (if_neg c8).symm.trans hf
        refine lv_iload hx hb dX0_waysWithin_11 (lv_at hl 4 rfl) ?_
        refine lv_iload_n hx hb dX0_waysWithin_13 rfl (lv_at hl 1 rfl) ?_
        refine lv_icmp_ne (tgt := 21) hx hb dX0_waysWithin_14 (by decide) (fun c9 => ?_) (fun c9 => ?_)
        · have hf := (if_neg c9).symm.trans hf
          refine lv_aload_n hx hb dX0_waysWithin_21 rfl (lv_at hl 0 rfl) ?_
          refine lv_iload hx hb dX0_waysWithin_22 (lv_at hl 4 rfl) ?_
          obtain ⟨r10, h11, hf⟩ := ob1_some hf
          refine kVi (As := [.int x5]) (rest := []) ⟨hx, hb, hml, hown, hts⟩ (okX0_linkAt l D cy ad A hD x5 S r10 h11) (cwV 1 hts gX0_waysWithin_X0_linkAt rfl rfl rfl (by decide +kernel) ⟨Nat.le_of_ble_eq_true rfl, Nat.le_of_ble_eq_true rfl⟩) hK hP hS (va_recv hK.1 hP (ci := 0) (q := (RX0, TX0, 9)) rfl (atX7 cy ad S)) rfl hl.1 rfl (Nat.le_of_ble_eq_true rfl) dX0_waysWithin_24 (fun H locs hP hS => ?_)
          exact K27 k5 ih5 (x1) (x2) (x3) (x5) (r10) S H locs ls hP hS (lv_sub hl [0, 1, 2, 3, 4] rfl) hf
        · have hf := (if_pos c9).symm.trans hf
          refine lv_iconst (v := 0) hx hb dX0_waysWithin_17 (by decide) ?_
          refine lv_goto (tgt := 27) hx hb dX0_waysWithin_18 (by decide) ?_
          exact K27 k5 ih5 (x1) (x2) (x3) (x5) (0) S H locs ls hP hS (lv_sub hl [0, 1, 2, 3, 4] rfl) hf
  unfold fX0_waysWithin at hf
  suffices hG : ∀ (H : Heap) (locs : List Loc), va_P D vwCl (wX cy ad S) H → va_S A s.heap H locs → W p l e (headSpec wsX0_waysWithin { frames := 4, cells := 0, slots := 0, locals := 95 }).room s m args below meth c H locs 0 0 (MQ below (QcL D A r (wX cy ad S')) args s 0 0 A) (F0 m 0 ls []) by exact hG s.heap [] hP va_S.rf
  clear hP hS
  intro H locs hP hS
  refine lv_lconst (v := 1) hx hb dX0_waysWithin_0 (by decide) ?_
  refine lv_lstore_n (lv' := [(3, .long 1), (0, .ref (ad 7)), (1, .int p0), (2, .int p1)]) hx hb dX0_waysWithin_1 rfl hl (by decide) rfl (fun ls hl => ?_)
  refine lv_iload_n hx hb dX0_waysWithin_2 rfl (lv_at hl 2 rfl) ?_
  refine lv_istore (lv' := [(5, .int p0), (3, .long 1), (0, .ref (ad 7)), (1, .int p0), (2, .int p1)]) hx hb dX0_waysWithin_3 hl (by decide) rfl (fun ls hl => ?_)
  exact K5  FU (p0) (p1) (1) (p0) S H locs ls hP hS (lv_sub hl [2, 3, 4, 1, 0] rfl) hf

def fX0_countAt_14 (p1 : Int32) (p2 : Int32) (S : XS) : Option Int64 := (bnd (((p1 * 8) + p2)) (fun y5 => (if (bi (fX5_isWithin p2 8)) = 0 then (some 0) else (if (bi (fX5_isWithin y5 128)) = 0 then (some 0) else (ck y5 128 (some (xl S 14 y5.toNatClampNeg)))))))
set_option maxHeartbeats 4000000 in
set_option maxRecDepth 100000 in
theorem okX0_countAt_14 (l : Launch) (D : va_G) (cy : Nat → ClassId) (ad : Nat → Nat) (A : Nat → Prop) (hD : ∀ S, va_D A (wX cy ad S)) (p1 : Int32) (p2 : Int32) (S : XS) (r : Int64) (hf : fX0_countAt_14 p1 p2 S = some r) : ML l yX0_countAt wsX0_countAt { frames := 1, cells := 0, slots := 0, locals := 21 } D cy A (wX cy ad S) [.ref (ad 14), .int p1, .int p2] r (wX cy ad S) := by
  refine Met.ofW (cc := cX0_countAt) (maxL := 4) (ret := (some .long)) (by decide) rfl ?_
  intro p e s m args below meth c s₁ B hml hv
  obtain ⟨ha, hP, hK⟩ := hv
  have hx := B.exec
  have hb := B.bytes
  have hr := B.returns
  have hts := atoms_spec (ws := wsX0_countAt) B.pre
  have hown : s.vm.findClass RX0 = some m.cls := findClass_of_methodNamed B.named
  have hlocks := B.notSynchronized
  have hS : va_S A s.heap s.heap [] := va_S.rf
  obtain ⟨ls, hl, he0⟩ := ent (m := m) ha (n := 4) (Nat.le_of_ble_eq_true rfl)
  refine W.eq he0 ?_
  have hl : lv_has ls 4 [(0, .ref (ad 14)), (1, .int p1), (2, .int p2)] := hl
  unfold fX0_countAt_14 at hf
  suffices hG : ∀ (H : Heap) (locs : List Loc), va_P D vwCl (wX cy ad S) H → va_S A s.heap H locs → W p l e (headSpec wsX0_countAt { frames := 1, cells := 0, slots := 0, locals := 21 }).room s m args below meth c H locs 0 0 (MQ below (QcL D A r (wX cy ad S)) args s 0 0 A) (F0 m 0 ls []) by exact hG s.heap [] hP va_S.rf
  clear hP hS
  intro H locs hP hS
  refine lv_iload_n hx hb dX0_countAt_0 rfl (lv_at hl 1 rfl) ?_
  refine lv_bipush (v := 8) hx hb dX0_countAt_1 (by decide) ?_
  refine lv_imul hx hb dX0_countAt_3 ?_
  refine lv_iload_n hx hb dX0_countAt_4 rfl (lv_at hl 2 rfl) ?_
  refine lv_iadd hx hb dX0_countAt_5 ?_
  refine lv_topi (fun y5 ey5 => ?_)
  have hf := bnd_of ey5 hf
  refine lv_istore_n (lv' := [(3, .int y5), (0, .ref (ad 14)), (1, .int p1), (2, .int p2)]) hx hb dX0_countAt_6 rfl hl (by decide) rfl (fun ls hl => ?_)
  refine lv_iload_n hx hb dX0_countAt_7 rfl (lv_at hl 3 rfl) ?_
  refine lv_bipush (v := 8) hx hb dX0_countAt_8 (by decide) ?_
  refine kNi (As := [.int p2, .int 8]) (rest := []) ⟨hx, hb, hml, hown, hts⟩ (okX5_isWithin l D cy A (wX cy ad S) p2 8 _ rfl) ⟨va_cnB 2 hts gX0_countAt_X5_isWithin_n42 rfl rfl rfl hK.2.2.2.2.1 (hts (Cond.initialized RX5) (List.mem_of_getElem? (i := 2) rfl)) (by decide +kernel) ⟨Nat.le_of_ble_eq_true rfl, Nat.le_of_ble_eq_true rfl⟩, (hts (Cond.static yX5_isWithin) (List.mem_of_getElem? (i := 1) rfl)), trivial⟩ hK hP hS rfl hl.1 rfl (Nat.le_of_ble_eq_true rfl) dX0_countAt_10 (fun H locs hP hS => ?_)
  refine lv_if_eq (tgt := 31) hx hb dX0_countAt_13 (by decide) (fun c7 => ?_) (fun c7 => ?_)
  · have hf := (if_pos c7).symm.trans hf
    refine lv_lconst (v := 0) hx hb dX0_countAt_31 (by decide) ?_
    have he := Option.some.inj hf
    exact rL hx hb hr hP hS he hlocks dX0_countAt_32
  · have hf := (if_neg c7).symm.trans hf
    refine lv_iload_n hx hb dX0_countAt_16 rfl (lv_at hl 0 rfl) ?_
    refine lv_aload_n hx hb dX0_countAt_17 rfl (lv_at hl 1 rfl) ?_
    refine anX14 hx hb hK hP dX0_countAt_18 ?_
    refine kNi (As := [.int y5, .int 128]) (rest := []) ⟨hx, hb, hml, hown, hts⟩ (okX5_isWithin l D cy A (wX cy ad S) y5 128 _ rfl) ⟨va_cnB 2 hts gX0_countAt_X5_isWithin_n42 rfl rfl rfl hK.2.2.2.2.1 (hts (Cond.initialized RX5) (List.mem_of_getElem? (i := 2) rfl)) (by decide +kernel) ⟨Nat.le_of_ble_eq_true rfl, Nat.le_of_ble_eq_true rfl⟩, (hts (Cond.static yX5_isWithin) (List.mem_of_getElem? (i := 1) rfl)), trivial⟩ hK hP hS rfl hl.1 rfl (Nat.le_of_ble_eq_true rfl) dX0_countAt_19 (fun H locs hP hS => ?_)
    refine lv_if_eq (tgt := 31) hx hb dX0_countAt_22 (by decide) (fun c9 => ?_) (fun c9 => ?_)
    · have hf := (if_pos c9).symm.trans hf
      refine lv_lconst (v := 0) hx hb dX0_countAt_31 (by decide) ?_
      have he := Option.some.inj hf
      exact rL hx hb hr hP hS he hlocks dX0_countAt_32
    · have hf := (if_neg c9).symm.trans hf
      refine lv_aload_n hx hb dX0_countAt_25 rfl (lv_at hl 1 rfl) ?_
      refine lv_iload_n hx hb dX0_countAt_26 rfl (lv_at hl 0 rfl) ?_
      obtain ⟨c10, hf⟩ := ck_some hf
      refine alX14 hx hb hK hP c10 dX0_countAt_27 ?_
      refine lv_goto (tgt := 32) hx hb dX0_countAt_28 (by decide) ?_
      have he := Option.some.inj hf
      exact rL hx hb hr hP hS he hlocks dX0_countAt_32

def bX0_stepOver_14_66 (k26 : Int32 × Int32 × Int32 × Int64 × Int64 × Int32 × XS → Option (Int64 × XS)) (x2 : Int32) (x3 : Int32) (x4 : Int32) (x5 : Int64) (x7 : Int64) (x9 : Int32) (x10 : Int64) (S : XS) : Option (Int64 × XS) := (bnd (((x2 * 8) + x9)) (fun y53 => (if (bi (fX5_isWithin y53 128)) = 0 then (bnd ((x7 + x10)) (fun y56 => (k26 (x2, x3, x4, x5, y56, (x9 + 1), S)))) else (ck y53 128 (bnd (xlW S 14 y53.toNatClampNeg x10) (fun S57 => (bnd ((x7 + x10)) (fun y59 => (k26 (x2, x3, x4, x5, y59, (x9 + 1), S57))))))))))
def bX0_stepOver_14_26  (k26 : Int32 × Int32 × Int32 × Int64 × Int64 × Int32 × XS → Option (Int64 × XS)) (x2 : Int32) (x3 : Int32) (x4 : Int32) (x5 : Int64) (x7 : Int64) (x9 : Int32) (S : XS) : Option (Int64 × XS) := (if 8 ≤ x9 then (some (x7, S)) else (ob1 (fX0_ownSet x2 S) (fun r61 => (if (r61 &&& (fX5_bitOf x9)) = 0 then (bX0_stepOver_14_66 k26 (x2) (x3) (x4) (x5) (x7) (x9) (0) S) else (ob1 (fX0_countAt_14 x3 x9 S) (fun r65 => (bnd ((fX0_fitting r65 x4 x5)) (fun y68 => (bX0_stepOver_14_66 k26 (x2) (x3) (x4) (x5) (x7) (x9) (y68) S)))))))))
def fX0_stepOver_14 (p1 : Int32) (p2 : Int32) (p3 : Int32) (p4 : Int64) (S : XS) : Option (Int64 × XS) := (if (bi (fX0_holds p1 S)) = 0 then (some (p4, S)) else (ck p1 16 (if (xa S 8 p1.toNatClampNeg) = 0 then (some (p4, S)) else (lp (fun k q => bX0_stepOver_14_26  k q.1 q.2.1 q.2.2.1 q.2.2.2.1 q.2.2.2.2.1 q.2.2.2.2.2.1 q.2.2.2.2.2.2) FU (p1, p2, p3, p4, 0, 0, S)))))
set_option maxHeartbeats 4000000 in
set_option maxRecDepth 100000 in
theorem okX0_stepOver_14 (l : Launch) (D : va_G) (cy : Nat → ClassId) (ad : Nat → Nat) (A : Nat → Prop) (hD : ∀ S, va_D A (wX cy ad S)) (p1 : Int32) (p2 : Int32) (p3 : Int32) (p4 : Int64) (S : XS) (r : Int64) (S' : XS) (hf : fX0_stepOver_14 p1 p2 p3 p4 S = some (r, S')) : ML l yX0_stepOver wsX0_stepOver { frames := 3, cells := 0, slots := 0, locals := 63 } D cy A (wX cy ad S) [.ref (ad 7), .ref (ad 14), .int p1, .int p2, .int p3, .long p4] r (wX cy ad S') := by
  refine Met.ofW (cc := cX0_stepOver) (maxL := 13) (ret := (some .long)) (by decide) rfl ?_
  intro p e s m args below meth c s₁ B hml hv
  obtain ⟨ha, hP, hK⟩ := hv
  have hx := B.exec
  have hb := B.bytes
  have hr := B.returns
  have hts := atoms_spec (ws := wsX0_stepOver) B.pre
  have hown : s.vm.findClass RX0 = some m.cls := findClass_of_methodNamed B.named
  have hlocks := B.notSynchronized
  have hS : va_S A s.heap s.heap [] := va_S.rf
  obtain ⟨ls, hl, he0⟩ := ent (m := m) ha (n := 13) (Nat.le_of_ble_eq_true rfl)
  refine W.eq he0 ?_
  have hl : lv_has ls 13 [(0, .ref (ad 7)), (1, .ref (ad 14)), (2, .int p1), (3, .int p2), (4, .int p3), (5, .long p4)] := hl
  have K66 : ∀ (k26 : Int32 × Int32 × Int32 × Int64 × Int64 × Int32 × XS → Option (Int64 × XS)), (∀ (x2 : Int32) (x3 : Int32) (x4 : Int32) (x5 : Int64) (x7 : Int64) (x9 : Int32) (S : XS) (H : Heap) (locs : List Loc) (ls : Array Slot), va_P D vwCl (wX cy ad S) H → va_S A s.heap H locs → lv_has ls 13 [(0, .ref (ad 7)), (1, .ref (ad 14)), (2, .int x2), (3, .int x3), (4, .int x4), (5, .long x5), (7, .long x7), (9, .int x9)] → k26 (x2, x3, x4, x5, x7, x9, S) = some (r, S') → W p l e (headSpec wsX0_stepOver { frames := 3, cells := 0, slots := 0, locals := 63 }).room s m args below meth c H locs 0 0 (MQ below (QcL D A r (wX cy ad S')) args s 0 0 A) (F0 m 26 ls [])) → ∀ (x2 : Int32) (x3 : Int32) (x4 : Int32) (x5 : Int64) (x7 : Int64) (x9 : Int32) (x10 : Int64) (S : XS) (H : Heap) (locs : List Loc) (ls : Array Slot), va_P D vwCl (wX cy ad S) H → va_S A s.heap H locs → lv_has ls 13 [(0, .ref (ad 7)), (1, .ref (ad 14)), (2, .int x2), (3, .int x3), (4, .int x4), (5, .long x5), (7, .long x7), (9, .int x9), (10, .long x10)] → bX0_stepOver_14_66 k26 x2 x3 x4 x5 x7 x9 x10 S = some (r, S') → W p l e (headSpec wsX0_stepOver { frames := 3, cells := 0, slots := 0, locals := 63 }).room s m args below meth c H locs 0 0 (MQ below (QcL D A r (wX cy ad S')) args s 0 0 A) (F0 m 66 ls []) := by
    intro k26 ih26 x2 x3 x4 x5 x7 x9 x10 S H locs ls hP hS hl hf
    unfold bX0_stepOver_14_66 at hf
    refine lv_iload_n hx hb dX0_stepOver_66 rfl (lv_at hl 2 rfl) ?_
    refine lv_bipush (v := 8) hx hb dX0_stepOver_67 (by decide) ?_
    refine lv_imul hx hb dX0_stepOver_69 ?_
    refine lv_iload hx hb dX0_stepOver_70 (lv_at hl 7 rfl) ?_
    refine lv_iadd hx hb dX0_stepOver_72 ?_
    refine lv_topi (fun y53 ey53 => ?_)
    have hf := bnd_of ey53 hf
    refine lv_istore (lv' := [(12, .int y53), (0, .ref (ad 7)), (1, .ref (ad 14)), (2, .int x2), (3, .int x3), (4, .int x4), (5, .long x5), (7, .long x7), (9, .int x9), (10, .long x10)]) hx hb dX0_stepOver_73 hl (by decide) rfl (fun ls hl => ?_)
    refine lv_iload hx hb dX0_stepOver_75 (lv_at hl 0 rfl) ?_
    refine lv_aload_n hx hb dX0_stepOver_77 rfl (lv_at hl 2 rfl) ?_
    refine anX14 hx hb hK hP dX0_stepOver_78 ?_
    refine kNi (As := [.int y53, .int 128]) (rest := []) ⟨hx, hb, hml, hown, hts⟩ (okX5_isWithin l D cy A (wX cy ad S) y53 128 _ rfl) ⟨va_cnB 2 hts gX0_stepOver_X5_isWithin_n42 rfl rfl rfl hK.2.2.2.2.1 (hts (Cond.initialized RX5) (List.mem_of_getElem? (i := 9) rfl)) (by decide +kernel) ⟨Nat.le_of_ble_eq_true rfl, Nat.le_of_ble_eq_true rfl⟩, (hts (Cond.static yX5_isWithin) (List.mem_of_getElem? (i := 8) rfl)), trivial⟩ hK hP hS rfl hl.1 rfl (Nat.le_of_ble_eq_true rfl) dX0_stepOver_79 (fun H locs hP hS => ?_)
    refine lv_if_eq (tgt := 91) hx hb dX0_stepOver_82 (by decide) (fun c55 => ?_) (fun c55 => ?_)
    · have hf := (if_pos c55).symm.trans hf
      refine lv_lload hx hb dX0_stepOver_91 (lv_at hl 7 rfl) ?_
      refine lv_lload hx hb dX0_stepOver_93 (lv_at hl 9 rfl) ?_
      refine lv_ladd hx hb dX0_stepOver_95 ?_
      refine lv_topl (fun y56 ey56 => ?_)
      have hf := bnd_of ey56 hf
      refine lv_lstore (lv' := [(7, .long y56), (12, .int y53), (0, .ref (ad 7)), (1, .ref (ad 14)), (2, .int x2), (3, .int x3), (4, .int x4), (5, .long x5), (9, .int x9), (10, .long x10)]) hx hb dX0_stepOver_96 hl (by decide) rfl (fun ls hl => ?_)
      refine lv_iinc (v := (x9 + 1)) (lv' := [(9, .int (x9 + 1)), (7, .long y56), (12, .int y53), (0, .ref (ad 7)), (1, .ref (ad 14)), (2, .int x2), (3, .int x3), (4, .int x4), (5, .long x5), (10, .long x10)]) hx hb dX0_stepOver_98 hl (k := 8) rfl rfl (by decide) rfl (fun ls hl => ?_)
      refine lv_goto (tgt := 26) hx hb dX0_stepOver_101 (by decide) ?_
      exact ih26 (x2) (x3) (x4) (x5) (y56) ((x9 + 1)) S H locs ls hP hS (lv_sub hl [3, 4, 5, 6, 7, 8, 1, 0] rfl) hf
    · have hf := (if_neg c55).symm.trans hf
      refine lv_aload_n hx hb dX0_stepOver_85 rfl (lv_at hl 2 rfl) ?_
      refine lv_iload hx hb dX0_stepOver_86 (lv_at hl 0 rfl) ?_
      refine lv_lload hx hb dX0_stepOver_88 (lv_at hl 9 rfl) ?_
      obtain ⟨c58, hf⟩ := ck_some hf
      refine asX14 (v := x10) hx hb hK hP hD hS c58 dX0_stepOver_90 (fun S57 eS57 H locs hP hS => ?_)
      have hf := bnd_of eS57 hf
      refine lv_lload hx hb dX0_stepOver_91 (lv_at hl 7 rfl) ?_
      refine lv_lload hx hb dX0_stepOver_93 (lv_at hl 9 rfl) ?_
      refine lv_ladd hx hb dX0_stepOver_95 ?_
      refine lv_topl (fun y59 ey59 => ?_)
      have hf := bnd_of ey59 hf
      refine lv_lstore (lv' := [(7, .long y59), (12, .int y53), (0, .ref (ad 7)), (1, .ref (ad 14)), (2, .int x2), (3, .int x3), (4, .int x4), (5, .long x5), (9, .int x9), (10, .long x10)]) hx hb dX0_stepOver_96 hl (by decide) rfl (fun ls hl => ?_)
      refine lv_iinc (v := (x9 + 1)) (lv' := [(9, .int (x9 + 1)), (7, .long y59), (12, .int y53), (0, .ref (ad 7)), (1, .ref (ad 14)), (2, .int x2), (3, .int x3), (4, .int x4), (5, .long x5), (10, .long x10)]) hx hb dX0_stepOver_98 hl (k := 8) rfl rfl (by decide) rfl (fun ls hl => ?_)
      refine lv_goto (tgt := 26) hx hb dX0_stepOver_101 (by decide) ?_
      exact ih26 (x2) (x3) (x4) (x5) (y59) ((x9 + 1)) S57 H locs ls hP hS (lv_sub hl [3, 4, 5, 6, 7, 8, 1, 0] rfl) hf
  have K26 : ∀ (n : Nat), ∀ (x2 : Int32) (x3 : Int32) (x4 : Int32) (x5 : Int64) (x7 : Int64) (x9 : Int32) (S : XS) (H : Heap) (locs : List Loc) (ls : Array Slot), va_P D vwCl (wX cy ad S) H → va_S A s.heap H locs → lv_has ls 13 [(0, .ref (ad 7)), (1, .ref (ad 14)), (2, .int x2), (3, .int x3), (4, .int x4), (5, .long x5), (7, .long x7), (9, .int x9)] → lp (fun k q => bX0_stepOver_14_26  k q.1 q.2.1 q.2.2.1 q.2.2.2.1 q.2.2.2.2.1 q.2.2.2.2.2.1 q.2.2.2.2.2.2) n (x2, x3, x4, x5, x7, x9, S) = some (r, S') → W p l e (headSpec wsX0_stepOver { frames := 3, cells := 0, slots := 0, locals := 63 }).room s m args below meth c H locs 0 0 (MQ below (QcL D A r (wX cy ad S')) args s 0 0 A) (F0 m 26 ls []) := by
    intro  n
    induction n with
    | zero =>
      intro x2 x3 x4 x5 x7 x9 S H locs ls hP hS hl hf
      cases hf
    | succ n ih26 =>
      intro x2 x3 x4 x5 x7 x9 S H locs ls hP hS hl hf
      have hf : bX0_stepOver_14_26  (lp (fun k q => bX0_stepOver_14_26  k q.1 q.2.1 q.2.2.1 q.2.2.2.1 q.2.2.2.2.1 q.2.2.2.2.2.1 q.2.2.2.2.2.2) n) x2 x3 x4 x5 x7 x9 S = some (r, S') := hf
      generalize lp (fun k q => bX0_stepOver_14_26  k q.1 q.2.1 q.2.2.1 q.2.2.2.1 q.2.2.2.2.1 q.2.2.2.2.2.1 q.2.2.2.2.2.2) n = k26 at hf ih26
      unfold bX0_stepOver_14_26 at hf
      refine lv_iload hx hb dX0_stepOver_26 (lv_at hl 7 rfl) ?_
      refine lv_bipush (v := 8) hx hb dX0_stepOver_28 (by decide) ?_
      refine lv_icmp_ge (tgt := 104) hx hb dX0_stepOver_30 (by decide) (fun c60 => ?_) (fun c60 => ?_)
      · have hf := (if_pos c60).symm.trans hf
        refine lv_lload hx hb dX0_stepOver_104 (lv_at hl 6 rfl) ?_
        obtain ⟨he, hS9⟩ := Prod.mk.inj (Option.some.inj hf)
        subst hS9
        exact rL hx hb hr hP hS he hlocks dX0_stepOver_106
      · have hf := (if_neg c60).symm.trans hf
        refine lv_lconst (v := 0) hx hb dX0_stepOver_33 (by decide) ?_
        refine lv_lstore (lv' := [(10, .long 0), (0, .ref (ad 7)), (1, .ref (ad 14)), (2, .int x2), (3, .int x3), (4, .int x4), (5, .long x5), (7, .long x7), (9, .int x9)]) hx hb dX0_stepOver_34 hl (by decide) rfl (fun ls hl => ?_)
        refine lv_aload_n hx hb dX0_stepOver_36 rfl (lv_at hl 1 rfl) ?_
        refine lv_iload_n hx hb dX0_stepOver_37 rfl (lv_at hl 3 rfl) ?_
        obtain ⟨r61, h62, hf⟩ := ob1_some hf
        refine kVi (As := [.int x2]) (rest := []) ⟨hx, hb, hml, hown, hts⟩ (okX0_ownSet l D cy ad A hD x2 S r61 h62) (cwV 1 hts gX0_stepOver_X0_ownSet rfl rfl rfl (by decide +kernel) ⟨Nat.le_of_ble_eq_true rfl, Nat.le_of_ble_eq_true rfl⟩) hK hP hS (va_recv hK.1 hP (ci := 0) (q := (RX0, TX0, 9)) rfl (atX7 cy ad S)) rfl hl.1 rfl (Nat.le_of_ble_eq_true rfl) dX0_stepOver_38 (fun H locs hP hS => ?_)
        refine lv_iload hx hb dX0_stepOver_41 (lv_at hl 8 rfl) ?_
        refine kNi (As := [.int x9]) (rest := [.int r61]) ⟨hx, hb, hml, hown, hts⟩ (okX5_bitOf l D cy A (wX cy ad S) x9 _ rfl) ⟨va_cnB 1 hts gX0_stepOver_X5_bitOf_n54 rfl rfl rfl hK.2.2.2.2.2.1 (hts (Cond.initialized RX5) (List.mem_of_getElem? (i := 9) rfl)) (by decide +kernel) ⟨Nat.le_of_ble_eq_true rfl, Nat.le_of_ble_eq_true rfl⟩, (hts (Cond.static yX5_bitOf) (List.mem_of_getElem? (i := 16) rfl)), trivial⟩ hK hP hS rfl hl.1 rfl (Nat.le_of_ble_eq_true rfl) dX0_stepOver_43 (fun H locs hP hS => ?_)
        refine lv_iand hx hb dX0_stepOver_46 ?_
        refine lv_if_eq (tgt := 66) hx hb dX0_stepOver_47 (by decide) (fun c64 => ?_) (fun c64 => ?_)
        · have hf := (if_pos c64).symm.trans hf
          exact K66 k26 ih26 (x2) (x3) (x4) (x5) (x7) (x9) (0) S H locs ls hP hS (lv_sub hl [1, 2, 3, 4, 5, 6, 7, 8, 0] rfl) hf
        · have hf := (if_neg c64).symm.trans hf
          refine lv_aload_n hx hb dX0_stepOver_50 rfl (lv_at hl 2 rfl) ?_
          refine lv_iload_n hx hb dX0_stepOver_51 rfl (lv_at hl 4 rfl) ?_
          refine lv_iload hx hb dX0_stepOver_52 (lv_at hl 8 rfl) ?_
          obtain ⟨r65, h66, hf⟩ := ob1_some hf
          refine kSl (As := [.ref (ad 14), .int x3, .int x9]) (rest := []) ⟨hx, hb, hml, hown, hts⟩ (okX0_countAt_14 l D cy ad A hD x3 x9 S r65 h66) (va_cwS 3 hts gX0_stepOver_X0_countAt rfl rfl rfl (by decide +kernel) ⟨Nat.le_of_ble_eq_true rfl, Nat.le_of_ble_eq_true rfl⟩) hK hP hS rfl hl.1 rfl (Nat.le_of_ble_eq_true rfl) dX0_stepOver_54 (fun H locs hP hS => ?_)
          refine lv_iload hx hb dX0_stepOver_57 (lv_at hl 5 rfl) ?_
          refine lv_lload hx hb dX0_stepOver_59 (lv_at hl 6 rfl) ?_
          refine kSl (As := [.long r65, .int x4, .long x5]) (rest := []) ⟨hx, hb, hml, hown, hts⟩ (okX0_fitting l D cy A (wX cy ad S) r65 x4 x5 _ rfl) (va_cwS 3 hts gX0_stepOver_X0_fitting rfl rfl rfl (by decide +kernel) ⟨Nat.le_of_ble_eq_true rfl, Nat.le_of_ble_eq_true rfl⟩) hK hP hS rfl hl.1 rfl (Nat.le_of_ble_eq_true rfl) dX0_stepOver_61 (fun H locs hP hS => ?_)
          refine lv_topl (fun y68 ey68 => ?_)
          have hf := bnd_of ey68 hf
          refine lv_lstore (lv' := [(10, .long y68), (0, .ref (ad 7)), (1, .ref (ad 14)), (2, .int x2), (3, .int x3), (4, .int x4), (5, .long x5), (7, .long x7), (9, .int x9)]) hx hb dX0_stepOver_64 hl (by decide) rfl (fun ls hl => ?_)
          exact K66 k26 ih26 (x2) (x3) (x4) (x5) (x7) (x9) (y68) S H locs ls hP hS (lv_sub hl [1, 2, 3, 4, 5, 6, 7, 8, 0] rfl) hf
  unfold fX0_stepOver_14 at hf
  suffices hG : ∀ (H : Heap) (locs : List Loc), va_P D vwCl (wX cy ad S) H → va_S A s.heap H locs → W p l e (headSpec wsX0_stepOver { frames := 3, cells := 0, slots := 0, locals := 63 }).room s m args below meth c H locs 0 0 (MQ below (QcL D A r (wX cy ad S')) args s 0 0 A) (F0 m 0 ls []) by exact hG s.heap [] hP va_S.rf
  clear hP hS
  intro H locs hP hS
  refine lv_aload_n hx hb dX0_stepOver_0 rfl (lv_at hl 0 rfl) ?_
  refine lv_iload_n hx hb dX0_stepOver_1 rfl (lv_at hl 2 rfl) ?_
  refine kVi (As := [.int p1]) (rest := []) ⟨hx, hb, hml, hown, hts⟩ (okX0_holds l D cy ad A hD p1 S _ rfl) (cwV 1 hts gX0_stepOver_X0_holds rfl rfl rfl (by decide +kernel) ⟨Nat.le_of_ble_eq_true rfl, Nat.le_of_ble_eq_true rfl⟩) hK hP hS (va_recv hK.1 hP (ci := 0) (q := (RX0, TX0, 9)) rfl (atX7 cy ad S)) rfl hl.1 rfl (Nat.le_of_ble_eq_true rfl) dX0_stepOver_2 (fun H locs hP hS => ?_)
  refine lv_if_eq (tgt := 17) hx hb dX0_stepOver_5 (by decide) (fun c70 => ?_) (fun c70 => ?_)
  · have hf := (if_pos c70).symm.trans hf
    refine lv_lload hx hb dX0_stepOver_17 (lv_at hl 5 rfl) ?_
    obtain ⟨he, hS9⟩ := Prod.mk.inj (Option.some.inj hf)
    subst hS9
    exact rL hx hb hr hP hS he hlocks dX0_stepOver_19
  · have hf := (if_neg c70).symm.trans hf
    refine lv_aload_n hx hb dX0_stepOver_8 rfl (lv_at hl 0 rfl) ?_
    refine gfX0_0 hx hb hts (fun _ h => List.mem_cons_of_mem _ (List.mem_append_right _ h)) hown hK hP (hts (Cond.fieldLink RX0 9 "WhoSpeaks$Chain" "speaking" "[Z") (List.mem_of_getElem? (i := 1) rfl)) dX0_stepOver_9 ?_
    refine lv_iload_n hx hb dX0_stepOver_12 rfl (lv_at hl 2 rfl) ?_
    obtain ⟨c71, hf⟩ := ck_some hf
    refine alX8 hx hb hK hP c71 dX0_stepOver_13 ?_
    refine lv_if_ne (tgt := 20) hx hb dX0_stepOver_14 (by decide) (fun c72 => ?_) (fun c72 => ?_)
    · have hf := (if_neg c72).symm.trans hf
      refine lv_lconst (v := 0) hx hb dX0_stepOver_20 (by decide) ?_
      refine lv_lstore (lv' := [(7, .long 0), (0, .ref (ad 7)), (1, .ref (ad 14)), (2, .int p1), (3, .int p2), (4, .int p3), (5, .long p4)]) hx hb dX0_stepOver_21 hl (by decide) rfl (fun ls hl => ?_)
      refine lv_iconst (v := 0) hx hb dX0_stepOver_23 (by decide) ?_
      refine lv_istore (lv' := [(9, .int 0), (7, .long 0), (0, .ref (ad 7)), (1, .ref (ad 14)), (2, .int p1), (3, .int p2), (4, .int p3), (5, .long p4)]) hx hb dX0_stepOver_24 hl (by decide) rfl (fun ls hl => ?_)
      exact K26  FU (p1) (p2) (p3) (p4) (0) (0) S H locs ls hP hS (lv_sub hl [2, 3, 4, 5, 6, 7, 1, 0] rfl) hf
    · have hf := (if_pos c72).symm.trans hf
      refine lv_lload hx hb dX0_stepOver_17 (lv_at hl 5 rfl) ?_
      obtain ⟨he, hS9⟩ := Prod.mk.inj (Option.some.inj hf)
      subst hS9
      exact rL hx hb hr hP hS he hlocks dX0_stepOver_19

def fX0_waysThrough (p0 : Int32) (p1 : Int32) (S : XS) : Option Int64 := (if (bi (fX0_holds p0 S)) = 0 then (some 0) else (ck p0 16 (if (xa S 8 p0.toNatClampNeg) = 0 then (some 0) else (ob1 (fX0_countAt_13 p0 p1 S) (fun r8 => (ob1 (fX0_countAt_14 p0 p1 S) (fun r10 => (some (r8 * r10)))))))))
set_option maxHeartbeats 4000000 in
set_option maxRecDepth 100000 in
theorem okX0_waysThrough (l : Launch) (D : va_G) (cy : Nat → ClassId) (ad : Nat → Nat) (A : Nat → Prop) (hD : ∀ S, va_D A (wX cy ad S)) (p0 : Int32) (p1 : Int32) (S : XS) (r : Int64) (hf : fX0_waysThrough p0 p1 S = some r) : ML l yX0_waysThrough wsX0_waysThrough { frames := 2, cells := 0, slots := 0, locals := 44 } D cy A (wX cy ad S) [.ref (ad 7), .int p0, .int p1] r (wX cy ad S) := by
  refine Met.ofW (cc := cX0_waysThrough) (maxL := 3) (ret := (some .long)) (by decide) rfl ?_
  intro p e s m args below meth c s₁ B hml hv
  obtain ⟨ha, hP, hK⟩ := hv
  have hx := B.exec
  have hb := B.bytes
  have hr := B.returns
  have hts := atoms_spec (ws := wsX0_waysThrough) B.pre
  have hown : s.vm.findClass RX0 = some m.cls := findClass_of_methodNamed B.named
  have hlocks := B.notSynchronized
  have hS : va_S A s.heap s.heap [] := va_S.rf
  obtain ⟨ls, hl, he0⟩ := ent (m := m) ha (n := 3) (Nat.le_of_ble_eq_true rfl)
  refine W.eq he0 ?_
  have hl : lv_has ls 3 [(0, .ref (ad 7)), (1, .int p0), (2, .int p1)] := hl
  unfold fX0_waysThrough at hf
  suffices hG : ∀ (H : Heap) (locs : List Loc), va_P D vwCl (wX cy ad S) H → va_S A s.heap H locs → W p l e (headSpec wsX0_waysThrough { frames := 2, cells := 0, slots := 0, locals := 44 }).room s m args below meth c H locs 0 0 (MQ below (QcL D A r (wX cy ad S)) args s 0 0 A) (F0 m 0 ls []) by exact hG s.heap [] hP va_S.rf
  clear hP hS
  intro H locs hP hS
  refine lv_aload_n hx hb dX0_waysThrough_0 rfl (lv_at hl 0 rfl) ?_
  refine lv_iload_n hx hb dX0_waysThrough_1 rfl (lv_at hl 1 rfl) ?_
  refine kVi (As := [.int p0]) (rest := []) ⟨hx, hb, hml, hown, hts⟩ (okX0_holds l D cy ad A hD p0 S _ rfl) (cwV 1 hts gX0_waysThrough_X0_holds rfl rfl rfl (by decide +kernel) ⟨Nat.le_of_ble_eq_true rfl, Nat.le_of_ble_eq_true rfl⟩) hK hP hS (va_recv hK.1 hP (ci := 0) (q := (RX0, TX0, 9)) rfl (atX7 cy ad S)) rfl hl.1 rfl (Nat.le_of_ble_eq_true rfl) dX0_waysThrough_2 (fun H locs hP hS => ?_)
  refine lv_if_eq (tgt := 17) hx hb dX0_waysThrough_5 (by decide) (fun c5 => ?_) (fun c5 => ?_)
  · have hf := (if_pos c5).symm.trans hf
    refine lv_lconst (v := 0) hx hb dX0_waysThrough_17 (by decide) ?_
    have he := Option.some.inj hf
    exact rL hx hb hr hP hS he hlocks dX0_waysThrough_18
  · have hf := (if_neg c5).symm.trans hf
    refine lv_aload_n hx hb dX0_waysThrough_8 rfl (lv_at hl 0 rfl) ?_
    refine gfX0_0 hx hb hts (fun _ h => List.mem_cons_of_mem _ (List.mem_append_right _ h)) hown hK hP (hts (Cond.fieldLink RX0 9 "WhoSpeaks$Chain" "speaking" "[Z") (List.mem_of_getElem? (i := 1) rfl)) dX0_waysThrough_9 ?_
    refine lv_iload_n hx hb dX0_waysThrough_12 rfl (lv_at hl 1 rfl) ?_
    obtain ⟨c6, hf⟩ := ck_some hf
    refine alX8 hx hb hK hP c6 dX0_waysThrough_13 ?_
    refine lv_if_ne (tgt := 19) hx hb dX0_waysThrough_14 (by decide) (fun c7 => ?_) (fun c7 => ?_)
    · have hf := (if_neg c7).symm.trans hf
      refine lv_aload_n hx hb dX0_waysThrough_19 rfl (lv_at hl 0 rfl) ?_
      refine gfX0_5 hx hb hts (fun _ h => List.mem_cons_of_mem _ (List.mem_append_right _ h)) hown hK hP (hts (Cond.fieldLink RX0 28 "WhoSpeaks$Chain" "heads" "[J") (List.mem_of_getElem? (i := 2) rfl)) dX0_waysThrough_20 ?_
      refine lv_iload_n hx hb dX0_waysThrough_23 rfl (lv_at hl 1 rfl) ?_
      refine lv_iload_n hx hb dX0_waysThrough_24 rfl (lv_at hl 2 rfl) ?_
      obtain ⟨r8, h9, hf⟩ := ob1_some hf
      refine kSl (As := [.ref (ad 13), .int p0, .int p1]) (rest := []) ⟨hx, hb, hml, hown, hts⟩ (okX0_countAt_13 l D cy ad A hD p0 p1 S r8 h9) (va_cwS 3 hts gX0_waysThrough_X0_countAt rfl rfl rfl (by decide +kernel) ⟨Nat.le_of_ble_eq_true rfl, Nat.le_of_ble_eq_true rfl⟩) hK hP hS rfl hl.1 rfl (Nat.le_of_ble_eq_true rfl) dX0_waysThrough_25 (fun H locs hP hS => ?_)
      refine lv_aload_n hx hb dX0_waysThrough_28 rfl (lv_at hl 0 rfl) ?_
      refine gfX0_6 hx hb hts (fun _ h => List.mem_cons_of_mem _ (List.mem_append_right _ h)) hown hK hP (hts (Cond.fieldLink RX0 32 "WhoSpeaks$Chain" "tails" "[J") (List.mem_of_getElem? (i := 3) rfl)) dX0_waysThrough_29 ?_
      refine lv_iload_n hx hb dX0_waysThrough_32 rfl (lv_at hl 1 rfl) ?_
      refine lv_iload_n hx hb dX0_waysThrough_33 rfl (lv_at hl 2 rfl) ?_
      obtain ⟨r10, h11, hf⟩ := ob1_some hf
      refine kSl (As := [.ref (ad 14), .int p0, .int p1]) (rest := [.long r8]) ⟨hx, hb, hml, hown, hts⟩ (okX0_countAt_14 l D cy ad A hD p0 p1 S r10 h11) (va_cwS 3 hts gX0_waysThrough_X0_countAt rfl rfl rfl (by decide +kernel) ⟨Nat.le_of_ble_eq_true rfl, Nat.le_of_ble_eq_true rfl⟩) hK hP hS rfl hl.1 rfl (Nat.le_of_ble_eq_true rfl) dX0_waysThrough_34 (fun H locs hP hS => ?_)
      refine lv_lmul hx hb dX0_waysThrough_37 ?_
      have he := Option.some.inj hf
      exact rL hx hb hr hP hS he hlocks dX0_waysThrough_38
    · have hf := (if_pos c7).symm.trans hf
      refine lv_lconst (v := 0) hx hb dX0_waysThrough_17 (by decide) ?_
      have he := Option.some.inj hf
      exact rL hx hb hr hP hS he hlocks dX0_waysThrough_18

def bX0_setThrough_4  (k4 : Int32 × Int32 × Int32 × XS → Option Int32) (x1 : Int32) (x2 : Int32) (x3 : Int32) (S : XS) : Option Int32 := (if 8 ≤ x3 then (some x2) else (ob1 (fX0_waysThrough x1 x3 S) (fun r11 => (if (lg_cmp r11 0) ≤ 0 then (k4 (x1, x2, (x3 + 1), S)) else (bnd ((x2 ||| (fX5_bitOf x3))) (fun y15 => (k4 (x1, y15, (x3 + 1), S))))))))
def fX0_setThrough (p0 : Int32) (S : XS) : Option Int32 := (lp (fun k q => bX0_setThrough_4  k q.1 q.2.1 q.2.2.1 q.2.2.2) FU (p0, 0, 0, S))
set_option maxHeartbeats 4000000 in
set_option maxRecDepth 100000 in
theorem okX0_setThrough (l : Launch) (D : va_G) (cy : Nat → ClassId) (ad : Nat → Nat) (A : Nat → Prop) (hD : ∀ S, va_D A (wX cy ad S)) (p0 : Int32) (S : XS) (r : Int32) (hf : fX0_setThrough p0 S = some r) : MI l yX0_setThrough wsX0_setThrough { frames := 3, cells := 0, slots := 0, locals := 66 } D cy A (wX cy ad S) [.ref (ad 7), .int p0] r (wX cy ad S) := by
  refine Met.ofW (cc := cX0_setThrough) (maxL := 4) (ret := (some .int)) (by decide) rfl ?_
  intro p e s m args below meth c s₁ B hml hv
  obtain ⟨ha, hP, hK⟩ := hv
  have hx := B.exec
  have hb := B.bytes
  have hr := B.returns
  have hts := atoms_spec (ws := wsX0_setThrough) B.pre
  have hown : s.vm.findClass RX0 = some m.cls := findClass_of_methodNamed B.named
  have hlocks := B.notSynchronized
  have hS : va_S A s.heap s.heap [] := va_S.rf
  obtain ⟨ls, hl, he0⟩ := ent (m := m) ha (n := 4) (Nat.le_of_ble_eq_true rfl)
  refine W.eq he0 ?_
  have hl : lv_has ls 4 [(0, .ref (ad 7)), (1, .int p0)] := hl
  have K4 : ∀ (n : Nat), ∀ (x1 : Int32) (x2 : Int32) (x3 : Int32) (S : XS) (H : Heap) (locs : List Loc) (ls : Array Slot), va_P D vwCl (wX cy ad S) H → va_S A s.heap H locs → lv_has ls 4 [(0, .ref (ad 7)), (1, .int x1), (2, .int x2), (3, .int x3)] → lp (fun k q => bX0_setThrough_4  k q.1 q.2.1 q.2.2.1 q.2.2.2) n (x1, x2, x3, S) = some r → W p l e (headSpec wsX0_setThrough { frames := 3, cells := 0, slots := 0, locals := 66 }).room s m args below meth c H locs 0 0 (MQ below (QcI D A r (wX cy ad S)) args s 0 0 A) (F0 m 4 ls []) := by
    intro  n
    induction n with
    | zero =>
      intro x1 x2 x3 S H locs ls hP hS hl hf
      cases hf
    | succ n ih4 =>
      intro x1 x2 x3 S H locs ls hP hS hl hf
      have hf : bX0_setThrough_4  (lp (fun k q => bX0_setThrough_4  k q.1 q.2.1 q.2.2.1 q.2.2.2) n) x1 x2 x3 S = some r := hf
      generalize lp (fun k q => bX0_setThrough_4  k q.1 q.2.1 q.2.2.1 q.2.2.2) n = k4 at hf ih4
      unfold bX0_setThrough_4 at hf
      refine lv_iload_n hx hb dX0_setThrough_4 rfl (lv_at hl 3 rfl) ?_
      refine lv_bipush (v := 8) hx hb dX0_setThrough_5 (by decide) ?_
      refine lv_icmp_ge (tgt := 34) hx hb dX0_setThrough_7 (by decide) (fun c10 => ?_) (fun c10 => ?_)
      · have hf := (if_pos c10).symm.trans hf
        refine lv_iload_n hx hb dX0_setThrough_34 rfl (lv_at hl 2 rfl) ?_
        have he := Option.some.inj hf
        exact rI hx hb hr hP hS he hlocks dX0_setThrough_35
      · have hf := (if_neg c10).symm.trans hf
        refine lv_aload_n hx hb dX0_setThrough_10 rfl (lv_at hl 0 rfl) ?_
        refine lv_iload_n hx hb dX0_setThrough_11 rfl (lv_at hl 1 rfl) ?_
        refine lv_iload_n hx hb dX0_setThrough_12 rfl (lv_at hl 3 rfl) ?_
        obtain ⟨r11, h12, hf⟩ := ob1_some hf
        refine kVl (As := [.int x1, .int x3]) (rest := []) ⟨hx, hb, hml, hown, hts⟩ (okX0_waysThrough l D cy ad A hD x1 x3 S r11 h12) (cwV 2 hts gX0_setThrough_X0_waysThrough rfl rfl rfl (by decide +kernel) ⟨Nat.le_of_ble_eq_true rfl, Nat.le_of_ble_eq_true rfl⟩) hK hP hS (va_recv hK.1 hP (ci := 0) (q := (RX0, TX0, 9)) rfl (atX7 cy ad S)) rfl hl.1 rfl (Nat.le_of_ble_eq_true rfl) dX0_setThrough_13 (fun H locs hP hS => ?_)
        refine lv_lconst (v := 0) hx hb dX0_setThrough_16 (by decide) ?_
        refine W.lcmp hx hb dX0_setThrough_17 ?_
        refine lv_if_le (tgt := 28) hx hb dX0_setThrough_18 (by decide) (fun c13 => ?_) (fun c13 => ?_)
        · have hf := (if_pos c13).symm.trans hf
          refine lv_iinc (v := (x3 + 1)) (lv' := [(3, .int (x3 + 1)), (0, .ref (ad 7)), (1, .int x1), (2, .int x2)]) hx hb dX0_setThrough_28 hl (k := 3) rfl rfl (by decide) rfl (fun ls hl => ?_)
          refine lv_goto (tgt := 4) hx hb dX0_setThrough_31 (by decide) ?_
          exact ih4 (x1) (x2) ((x3 + 1)) S H locs ls hP hS (lv_sub hl [1, 2, 3, 0] rfl) hf
        · have hf := (if_neg c13).symm.trans hf
          refine lv_iload_n hx hb dX0_setThrough_21 rfl (lv_at hl 2 rfl) ?_
          refine lv_iload_n hx hb dX0_setThrough_22 rfl (lv_at hl 3 rfl) ?_
          refine kNi (As := [.int x3]) (rest := [.int x2]) ⟨hx, hb, hml, hown, hts⟩ (okX5_bitOf l D cy A (wX cy ad S) x3 _ rfl) ⟨va_cnB 1 hts gX0_setThrough_X5_bitOf_n54 rfl rfl rfl hK.2.2.2.2.2.1 (hts (Cond.initialized RX5) (List.mem_of_getElem? (i := 15) rfl)) (by decide +kernel) ⟨Nat.le_of_ble_eq_true rfl, Nat.le_of_ble_eq_true rfl⟩, (hts (Cond.static yX5_bitOf) (List.mem_of_getElem? (i := 20) rfl)), trivial⟩ hK hP hS rfl hl.1 rfl (Nat.le_of_ble_eq_true rfl) dX0_setThrough_23 (fun H locs hP hS => ?_)
          refine lv_ior hx hb dX0_setThrough_26 ?_
          refine lv_topi (fun y15 ey15 => ?_)
          have hf := bnd_of ey15 hf
          refine lv_istore_n (lv' := [(2, .int y15), (0, .ref (ad 7)), (1, .int x1), (3, .int x3)]) hx hb dX0_setThrough_27 rfl hl (by decide) rfl (fun ls hl => ?_)
          refine lv_iinc (v := (x3 + 1)) (lv' := [(3, .int (x3 + 1)), (2, .int y15), (0, .ref (ad 7)), (1, .int x1)]) hx hb dX0_setThrough_28 hl (k := 3) rfl rfl (by decide) rfl (fun ls hl => ?_)
          refine lv_goto (tgt := 4) hx hb dX0_setThrough_31 (by decide) ?_
          exact ih4 (x1) (y15) ((x3 + 1)) S H locs ls hP hS (lv_sub hl [2, 3, 1, 0] rfl) hf
  unfold fX0_setThrough at hf
  suffices hG : ∀ (H : Heap) (locs : List Loc), va_P D vwCl (wX cy ad S) H → va_S A s.heap H locs → W p l e (headSpec wsX0_setThrough { frames := 3, cells := 0, slots := 0, locals := 66 }).room s m args below meth c H locs 0 0 (MQ below (QcI D A r (wX cy ad S)) args s 0 0 A) (F0 m 0 ls []) by exact hG s.heap [] hP va_S.rf
  clear hP hS
  intro H locs hP hS
  refine lv_iconst (v := 0) hx hb dX0_setThrough_0 (by decide) ?_
  refine lv_istore_n (lv' := [(2, .int 0), (0, .ref (ad 7)), (1, .int p0)]) hx hb dX0_setThrough_1 rfl hl (by decide) rfl (fun ls hl => ?_)
  refine lv_iconst (v := 0) hx hb dX0_setThrough_2 (by decide) ?_
  refine lv_istore_n (lv' := [(3, .int 0), (2, .int 0), (0, .ref (ad 7)), (1, .int p0)]) hx hb dX0_setThrough_3 rfl hl (by decide) rfl (fun ls hl => ?_)
  exact K4  FU (p0) (0) (0) S H locs ls hP hS (lv_sub hl [2, 3, 1, 0] rfl) hf

def bX0_countWays_55  (k55 : Int64 × Int32 × XS → Option (Int64 × XS)) (x3 : Int64) (x5 : Int32) (S : XS) : Option (Int64 × XS) := (if 16 ≤ x5 then (some (x3, S)) else (ob1 (fX0_setThrough x5 S) (fun r20 => (ck x5 16 (bnd (xaW S 15 x5.toNatClampNeg r20) (fun S22 => (k55 (x3, (x5 + 1), S22))))))))
def bX0_countWays_9  (k9 : Int64 × Int32 × XS → Option (Int64 × XS)) (x1 : Int64) (x3 : Int32) (S : XS) : Option (Int64 × XS) := (if x3 < 0 then (ob2 (fX0_waysWithin 0 ((xi S 5) - 1) S) (fun r25 S27 => (lp (fun k q => bX0_countWays_55  k q.1 q.2.1 q.2.2) FU (r25, 0, S27)))) else (ob1 (fX0_linkAt (x3 + 1) S) (fun r28 => (ob2 (fX0_stepOver_14 x3 (x3 + 1) r28 x1 S) (fun r30 S32 => (k9 (r30, (x3 + (-1)), S32)))))))
def fX0_countWays  (S : XS) : Option (Int64 × XS) := (bnd (((xi S 5) - 1)) (fun y33 => (lp (fun k q => bX0_countWays_9  k q.1 q.2.1 q.2.2) FU (1, y33, S))))
set_option maxHeartbeats 4000000 in
set_option maxRecDepth 100000 in
theorem okX0_countWays (l : Launch) (D : va_G) (cy : Nat → ClassId) (ad : Nat → Nat) (A : Nat → Prop) (hD : ∀ S, va_D A (wX cy ad S))  (S : XS) (r : Int64) (S' : XS) (hf : fX0_countWays  S = some (r, S')) : ML l yX0_countWays wsX0_countWays { frames := 5, cells := 0, slots := 0, locals := 121 } D cy A (wX cy ad S) [.ref (ad 7)] r (wX cy ad S') := by
  refine Met.ofW (cc := cX0_countWays) (maxL := 6) (ret := (some .long)) (by decide) rfl ?_
  intro p e s m args below meth c s₁ B hml hv
  obtain ⟨ha, hP, hK⟩ := hv
  have hx := B.exec
  have hb := B.bytes
  have hr := B.returns
  have hts := atoms_spec (ws := wsX0_countWays) B.pre
  have hown : s.vm.findClass RX0 = some m.cls := findClass_of_methodNamed B.named
  have hlocks := B.notSynchronized
  have hS : va_S A s.heap s.heap [] := va_S.rf
  obtain ⟨ls, hl, he0⟩ := ent (m := m) ha (n := 6) (Nat.le_of_ble_eq_true rfl)
  refine W.eq he0 ?_
  have hl : lv_has ls 6 [(0, .ref (ad 7))] := hl
  have K55 : ∀ (n : Nat), ∀ (x3 : Int64) (x5 : Int32) (S : XS) (H : Heap) (locs : List Loc) (ls : Array Slot), va_P D vwCl (wX cy ad S) H → va_S A s.heap H locs → lv_has ls 6 [(0, .ref (ad 7)), (3, .long x3), (5, .int x5)] → lp (fun k q => bX0_countWays_55  k q.1 q.2.1 q.2.2) n (x3, x5, S) = some (r, S') → W p l e (headSpec wsX0_countWays { frames := 5, cells := 0, slots := 0, locals := 121 }).room s m args below meth c H locs 0 0 (MQ below (QcL D A r (wX cy ad S')) args s 0 0 A) (F0 m 55 ls []) := by
    intro  n
    induction n with
    | zero =>
      intro x3 x5 S H locs ls hP hS hl hf
      cases hf
    | succ n ih55 =>
      intro x3 x5 S H locs ls hP hS hl hf
      have hf : bX0_countWays_55  (lp (fun k q => bX0_countWays_55  k q.1 q.2.1 q.2.2) n) x3 x5 S = some (r, S') := hf
      generalize lp (fun k q => bX0_countWays_55  k q.1 q.2.1 q.2.2) n = k55 at hf ih55
      unfold bX0_countWays_55 at hf
      refine lv_iload hx hb dX0_countWays_55 (lv_at hl 2 rfl) ?_
      refine lv_bipush (v := 16) hx hb dX0_countWays_57 (by decide) ?_
      refine lv_icmp_ge (tgt := 81) hx hb dX0_countWays_59 (by decide) (fun c19 => ?_) (fun c19 => ?_)
      · have hf := (if_pos c19).symm.trans hf
        refine lv_lload_n hx hb dX0_countWays_81 rfl (lv_at hl 1 rfl) ?_
        obtain ⟨he, hS9⟩ := Prod.mk.inj (Option.some.inj hf)
        subst hS9
        exact rL hx hb hr hP hS he hlocks dX0_countWays_82
      · have hf := (if_neg c19).symm.trans hf
        refine lv_aload_n hx hb dX0_countWays_62 rfl (lv_at hl 0 rfl) ?_
        refine gfX0_7 hx hb hts (fun _ h => List.mem_cons_of_mem _ (List.mem_append_right _ h)) hown hK hP (hts (Cond.fieldLink RX0 35 "WhoSpeaks$Chain" "sures" "[I") (List.mem_of_getElem? (i := 3) rfl)) dX0_countWays_63 ?_
        refine lv_iload hx hb dX0_countWays_66 (lv_at hl 2 rfl) ?_
        refine lv_aload_n hx hb dX0_countWays_68 rfl (lv_at hl 0 rfl) ?_
        refine lv_iload hx hb dX0_countWays_69 (lv_at hl 2 rfl) ?_
        obtain ⟨r20, h21, hf⟩ := ob1_some hf
        refine kVi (As := [.int x5]) (rest := [.int x5, .ref (ad 15)]) ⟨hx, hb, hml, hown, hts⟩ (okX0_setThrough l D cy ad A hD x5 S r20 h21) (cwV 1 hts gX0_countWays_X0_setThrough rfl rfl rfl (by decide +kernel) ⟨Nat.le_of_ble_eq_true rfl, Nat.le_of_ble_eq_true rfl⟩) hK hP hS (va_recv hK.1 hP (ci := 0) (q := (RX0, TX0, 9)) rfl (atX7 cy ad S)) rfl hl.1 rfl (Nat.le_of_ble_eq_true rfl) dX0_countWays_71 (fun H locs hP hS => ?_)
        obtain ⟨c23, hf⟩ := ck_some hf
        refine asX15 (v := r20) hx hb hK hP hD hS c23 dX0_countWays_74 (fun S22 eS22 H locs hP hS => ?_)
        have hf := bnd_of eS22 hf
        refine lv_iinc (v := (x5 + 1)) (lv' := [(5, .int (x5 + 1)), (0, .ref (ad 7)), (3, .long x3)]) hx hb dX0_countWays_75 hl (k := 2) rfl rfl (by decide) rfl (fun ls hl => ?_)
        refine lv_goto (tgt := 55) hx hb dX0_countWays_78 (by decide) ?_
        exact ih55 (x3) ((x5 + 1)) S22 H locs ls hP hS (lv_sub hl [1, 2, 0] rfl) hf
  have K9 : ∀ (n : Nat), ∀ (x1 : Int64) (x3 : Int32) (S : XS) (H : Heap) (locs : List Loc) (ls : Array Slot), va_P D vwCl (wX cy ad S) H → va_S A s.heap H locs → lv_has ls 6 [(0, .ref (ad 7)), (1, .long x1), (3, .int x3)] → lp (fun k q => bX0_countWays_9  k q.1 q.2.1 q.2.2) n (x1, x3, S) = some (r, S') → W p l e (headSpec wsX0_countWays { frames := 5, cells := 0, slots := 0, locals := 121 }).room s m args below meth c H locs 0 0 (MQ below (QcL D A r (wX cy ad S')) args s 0 0 A) (F0 m 9 ls []) := by
    intro  n
    induction n with
    | zero =>
      intro x1 x3 S H locs ls hP hS hl hf
      cases hf
    | succ n ih9 =>
      intro x1 x3 S H locs ls hP hS hl hf
      have hf : bX0_countWays_9  (lp (fun k q => bX0_countWays_9  k q.1 q.2.1 q.2.2) n) x1 x3 S = some (r, S') := hf
      generalize lp (fun k q => bX0_countWays_9  k q.1 q.2.1 q.2.2) n = k9 at hf ih9
      unfold bX0_countWays_9 at hf
      refine lv_iload_n hx hb dX0_countWays_9 rfl (lv_at hl 2 rfl) ?_
      refine lv_if_lt (tgt := 40) hx hb dX0_countWays_10 (by decide) (fun c24 => ?_) (fun c24 => ?_)
      · have hf := (if_pos c24).symm.trans hf
        refine lv_aload_n hx hb dX0_countWays_40 rfl (lv_at hl 0 rfl) ?_
        refine lv_iconst (v := 0) hx hb dX0_countWays_41 (by decide) ?_
        refine lv_aload_n hx hb dX0_countWays_42 rfl (lv_at hl 0 rfl) ?_
        refine gfX0_8 hx hb hts (fun _ h => List.mem_cons_of_mem _ (List.mem_append_right _ h)) hown hK hP (hts (Cond.fieldLink RX0 38 "WhoSpeaks$Chain" "count" "I") (List.mem_of_getElem? (i := 1) rfl)) dX0_countWays_43 ?_
        refine lv_iconst (v := 1) hx hb dX0_countWays_46 (by decide) ?_
        refine lv_isub hx hb dX0_countWays_47 ?_
        obtain ⟨r25, S27, h26, hf⟩ := ob2_some hf
        refine kVl (As := [.int 0, .int ((xi S 5) - 1)]) (rest := []) ⟨hx, hb, hml, hown, hts⟩ (okX0_waysWithin l D cy ad A hD 0 ((xi S 5) - 1) S r25 S27 h26) (cwV 2 hts gX0_countWays_X0_waysWithin rfl rfl rfl (by decide +kernel) ⟨Nat.le_of_ble_eq_true rfl, Nat.le_of_ble_eq_true rfl⟩) hK hP hS (va_recv hK.1 hP (ci := 0) (q := (RX0, TX0, 9)) rfl (atX7 cy ad S)) rfl hl.1 rfl (Nat.le_of_ble_eq_true rfl) dX0_countWays_48 (fun H locs hP hS => ?_)
        refine lv_lstore_n (lv' := [(3, .long r25), (0, .ref (ad 7)), (1, .long x1)]) hx hb dX0_countWays_51 rfl hl (by decide) rfl (fun ls hl => ?_)
        refine lv_iconst (v := 0) hx hb dX0_countWays_52 (by decide) ?_
        refine lv_istore (lv' := [(5, .int 0), (3, .long r25), (0, .ref (ad 7)), (1, .long x1)]) hx hb dX0_countWays_53 hl (by decide) rfl (fun ls hl => ?_)
        exact K55  FU (r25) (0) S27 H locs ls hP hS (lv_sub hl [2, 1, 0] rfl) hf
      · have hf := (if_neg c24).symm.trans hf
        refine lv_aload_n hx hb dX0_countWays_13 rfl (lv_at hl 0 rfl) ?_
        refine lv_aload_n hx hb dX0_countWays_14 rfl (lv_at hl 0 rfl) ?_
        refine gfX0_6 hx hb hts (fun _ h => List.mem_cons_of_mem _ (List.mem_append_right _ h)) hown hK hP (hts (Cond.fieldLink RX0 32 "WhoSpeaks$Chain" "tails" "[J") (List.mem_of_getElem? (i := 2) rfl)) dX0_countWays_15 ?_
        refine lv_iload_n hx hb dX0_countWays_18 rfl (lv_at hl 2 rfl) ?_
        refine lv_iload_n hx hb dX0_countWays_19 rfl (lv_at hl 2 rfl) ?_
        refine lv_iconst (v := 1) hx hb dX0_countWays_20 (by decide) ?_
        refine lv_iadd hx hb dX0_countWays_21 ?_
        refine lv_aload_n hx hb dX0_countWays_22 rfl (lv_at hl 0 rfl) ?_
        refine lv_iload_n hx hb dX0_countWays_23 rfl (lv_at hl 2 rfl) ?_
        refine lv_iconst (v := 1) hx hb dX0_countWays_24 (by decide) ?_
        refine lv_iadd hx hb dX0_countWays_25 ?_
        obtain ⟨r28, h29, hf⟩ := ob1_some hf
        refine kVi (As := [.int (x3 + 1)]) (rest := [.int (x3 + 1), .int x3, .ref (ad 14), .ref (ad 7)]) ⟨hx, hb, hml, hown, hts⟩ (okX0_linkAt l D cy ad A hD (x3 + 1) S r28 h29) (cwV 1 hts gX0_countWays_X0_linkAt rfl rfl rfl (by decide +kernel) ⟨Nat.le_of_ble_eq_true rfl, Nat.le_of_ble_eq_true rfl⟩) hK hP hS (va_recv hK.1 hP (ci := 0) (q := (RX0, TX0, 9)) rfl (atX7 cy ad S)) rfl hl.1 rfl (Nat.le_of_ble_eq_true rfl) dX0_countWays_26 (fun H locs hP hS => ?_)
        refine lv_lload_n hx hb dX0_countWays_29 rfl (lv_at hl 1 rfl) ?_
        obtain ⟨r30, S32, h31, hf⟩ := ob2_some hf
        refine kVl (As := [.ref (ad 14), .int x3, .int (x3 + 1), .int r28, .long x1]) (rest := []) ⟨hx, hb, hml, hown, hts⟩ (okX0_stepOver_14 l D cy ad A hD x3 (x3 + 1) r28 x1 S r30 S32 h31) (cwV 5 hts gX0_countWays_X0_stepOver rfl rfl rfl (by decide +kernel) ⟨Nat.le_of_ble_eq_true rfl, Nat.le_of_ble_eq_true rfl⟩) hK hP hS (va_recv hK.1 hP (ci := 0) (q := (RX0, TX0, 9)) rfl (atX7 cy ad S)) rfl hl.1 rfl (Nat.le_of_ble_eq_true rfl) dX0_countWays_30 (fun H locs hP hS => ?_)
        refine lv_lstore_n (lv' := [(1, .long r30), (0, .ref (ad 7)), (3, .int x3)]) hx hb dX0_countWays_33 rfl hl (by decide) rfl (fun ls hl => ?_)
        refine lv_iinc (v := (x3 + (-1))) (lv' := [(3, .int (x3 + (-1))), (1, .long r30), (0, .ref (ad 7))]) hx hb dX0_countWays_34 hl (k := 2) rfl rfl (by decide) rfl (fun ls hl => ?_)
        refine lv_goto (tgt := 9) hx hb dX0_countWays_37 (by decide) ?_
        exact ih9 (r30) ((x3 + (-1))) S32 H locs ls hP hS (lv_sub hl [2, 1, 0] rfl) hf
  unfold fX0_countWays at hf
  suffices hG : ∀ (H : Heap) (locs : List Loc), va_P D vwCl (wX cy ad S) H → va_S A s.heap H locs → W p l e (headSpec wsX0_countWays { frames := 5, cells := 0, slots := 0, locals := 121 }).room s m args below meth c H locs 0 0 (MQ below (QcL D A r (wX cy ad S')) args s 0 0 A) (F0 m 0 ls []) by exact hG s.heap [] hP va_S.rf
  clear hP hS
  intro H locs hP hS
  refine lv_lconst (v := 1) hx hb dX0_countWays_0 (by decide) ?_
  refine lv_lstore_n (lv' := [(1, .long 1), (0, .ref (ad 7))]) hx hb dX0_countWays_1 rfl hl (by decide) rfl (fun ls hl => ?_)
  refine lv_aload_n hx hb dX0_countWays_2 rfl (lv_at hl 1 rfl) ?_
  refine gfX0_8 hx hb hts (fun _ h => List.mem_cons_of_mem _ (List.mem_append_right _ h)) hown hK hP (hts (Cond.fieldLink RX0 38 "WhoSpeaks$Chain" "count" "I") (List.mem_of_getElem? (i := 1) rfl)) dX0_countWays_3 ?_
  refine lv_iconst (v := 1) hx hb dX0_countWays_6 (by decide) ?_
  refine lv_isub hx hb dX0_countWays_7 ?_
  refine lv_topi (fun y33 ey33 => ?_)
  have hf := bnd_of ey33 hf
  refine lv_istore_n (lv' := [(3, .int y33), (1, .long 1), (0, .ref (ad 7))]) hx hb dX0_countWays_8 rfl hl (by decide) rfl (fun ls hl => ?_)
  exact K9  FU (1) (y33) S H locs ls hP hS (lv_sub hl [2, 1, 0] rfl) hf

def fX0_sureSet (p0 : Int32) (S : XS) : Option Int32 := (if (bi (fX0_holds p0 S)) = 0 then (some 0) else (ck p0 16 (some (xa S 15 p0.toNatClampNeg))))
set_option maxHeartbeats 4000000 in
set_option maxRecDepth 100000 in
theorem okX0_sureSet (l : Launch) (D : va_G) (cy : Nat → ClassId) (ad : Nat → Nat) (A : Nat → Prop) (hD : ∀ S, va_D A (wX cy ad S)) (p0 : Int32) (S : XS) (r : Int32) (hf : fX0_sureSet p0 S = some r) : MI l yX0_sureSet wsX0_sureSet { frames := 2, cells := 0, slots := 0, locals := 42 } D cy A (wX cy ad S) [.ref (ad 7), .int p0] r (wX cy ad S) := by
  refine Met.ofW (cc := cX0_sureSet) (maxL := 2) (ret := (some .int)) (by decide) rfl ?_
  intro p e s m args below meth c s₁ B hml hv
  obtain ⟨ha, hP, hK⟩ := hv
  have hx := B.exec
  have hb := B.bytes
  have hr := B.returns
  have hts := atoms_spec (ws := wsX0_sureSet) B.pre
  have hown : s.vm.findClass RX0 = some m.cls := findClass_of_methodNamed B.named
  have hlocks := B.notSynchronized
  have hS : va_S A s.heap s.heap [] := va_S.rf
  obtain ⟨ls, hl, he0⟩ := ent (m := m) ha (n := 2) (Nat.le_of_ble_eq_true rfl)
  refine W.eq he0 ?_
  have hl : lv_has ls 2 [(0, .ref (ad 7)), (1, .int p0)] := hl
  unfold fX0_sureSet at hf
  suffices hG : ∀ (H : Heap) (locs : List Loc), va_P D vwCl (wX cy ad S) H → va_S A s.heap H locs → W p l e (headSpec wsX0_sureSet { frames := 2, cells := 0, slots := 0, locals := 42 }).room s m args below meth c H locs 0 0 (MQ below (QcI D A r (wX cy ad S)) args s 0 0 A) (F0 m 0 ls []) by exact hG s.heap [] hP va_S.rf
  clear hP hS
  intro H locs hP hS
  refine lv_aload_n hx hb dX0_sureSet_0 rfl (lv_at hl 0 rfl) ?_
  refine lv_iload_n hx hb dX0_sureSet_1 rfl (lv_at hl 1 rfl) ?_
  refine kVi (As := [.int p0]) (rest := []) ⟨hx, hb, hml, hown, hts⟩ (okX0_holds l D cy ad A hD p0 S _ rfl) (cwV 1 hts gX0_sureSet_X0_holds rfl rfl rfl (by decide +kernel) ⟨Nat.le_of_ble_eq_true rfl, Nat.le_of_ble_eq_true rfl⟩) hK hP hS (va_recv hK.1 hP (ci := 0) (q := (RX0, TX0, 9)) rfl (atX7 cy ad S)) rfl hl.1 rfl (Nat.le_of_ble_eq_true rfl) dX0_sureSet_2 (fun H locs hP hS => ?_)
  refine lv_if_eq (tgt := 17) hx hb dX0_sureSet_5 (by decide) (fun c4 => ?_) (fun c4 => ?_)
  · have hf := (if_pos c4).symm.trans hf
    refine lv_iconst (v := 0) hx hb dX0_sureSet_17 (by decide) ?_
    have he := Option.some.inj hf
    exact rI hx hb hr hP hS he hlocks dX0_sureSet_18
  · have hf := (if_neg c4).symm.trans hf
    refine lv_aload_n hx hb dX0_sureSet_8 rfl (lv_at hl 0 rfl) ?_
    refine gfX0_7 hx hb hts (fun _ h => List.mem_cons_of_mem _ (List.mem_append_right _ h)) hown hK hP (hts (Cond.fieldLink RX0 35 "WhoSpeaks$Chain" "sures" "[I") (List.mem_of_getElem? (i := 1) rfl)) dX0_sureSet_9 ?_
    refine lv_iload_n hx hb dX0_sureSet_12 rfl (lv_at hl 1 rfl) ?_
    obtain ⟨c5, hf⟩ := ck_some hf
    refine alX15 hx hb hK hP c5 dX0_sureSet_13 ?_
    refine lv_goto (tgt := 18) hx hb dX0_sureSet_14 (by decide) ?_
    have he := Option.some.inj hf
    exact rI hx hb hr hP hS he hlocks dX0_sureSet_18

def fX0_earlierSet (p0 : Int32) (S : XS) : Option Int32 := (if (bi (fX0_holds p0 S)) = 0 then (some 0) else (ck p0 16 (some (xa S 12 p0.toNatClampNeg))))
set_option maxHeartbeats 4000000 in
set_option maxRecDepth 100000 in
theorem okX0_earlierSet (l : Launch) (D : va_G) (cy : Nat → ClassId) (ad : Nat → Nat) (A : Nat → Prop) (hD : ∀ S, va_D A (wX cy ad S)) (p0 : Int32) (S : XS) (r : Int32) (hf : fX0_earlierSet p0 S = some r) : MI l yX0_earlierSet wsX0_earlierSet { frames := 2, cells := 0, slots := 0, locals := 42 } D cy A (wX cy ad S) [.ref (ad 7), .int p0] r (wX cy ad S) := by
  refine Met.ofW (cc := cX0_earlierSet) (maxL := 2) (ret := (some .int)) (by decide) rfl ?_
  intro p e s m args below meth c s₁ B hml hv
  obtain ⟨ha, hP, hK⟩ := hv
  have hx := B.exec
  have hb := B.bytes
  have hr := B.returns
  have hts := atoms_spec (ws := wsX0_earlierSet) B.pre
  have hown : s.vm.findClass RX0 = some m.cls := findClass_of_methodNamed B.named
  have hlocks := B.notSynchronized
  have hS : va_S A s.heap s.heap [] := va_S.rf
  obtain ⟨ls, hl, he0⟩ := ent (m := m) ha (n := 2) (Nat.le_of_ble_eq_true rfl)
  refine W.eq he0 ?_
  have hl : lv_has ls 2 [(0, .ref (ad 7)), (1, .int p0)] := hl
  unfold fX0_earlierSet at hf
  suffices hG : ∀ (H : Heap) (locs : List Loc), va_P D vwCl (wX cy ad S) H → va_S A s.heap H locs → W p l e (headSpec wsX0_earlierSet { frames := 2, cells := 0, slots := 0, locals := 42 }).room s m args below meth c H locs 0 0 (MQ below (QcI D A r (wX cy ad S)) args s 0 0 A) (F0 m 0 ls []) by exact hG s.heap [] hP va_S.rf
  clear hP hS
  intro H locs hP hS
  refine lv_aload_n hx hb dX0_earlierSet_0 rfl (lv_at hl 0 rfl) ?_
  refine lv_iload_n hx hb dX0_earlierSet_1 rfl (lv_at hl 1 rfl) ?_
  refine kVi (As := [.int p0]) (rest := []) ⟨hx, hb, hml, hown, hts⟩ (okX0_holds l D cy ad A hD p0 S _ rfl) (cwV 1 hts gX0_earlierSet_X0_holds rfl rfl rfl (by decide +kernel) ⟨Nat.le_of_ble_eq_true rfl, Nat.le_of_ble_eq_true rfl⟩) hK hP hS (va_recv hK.1 hP (ci := 0) (q := (RX0, TX0, 9)) rfl (atX7 cy ad S)) rfl hl.1 rfl (Nat.le_of_ble_eq_true rfl) dX0_earlierSet_2 (fun H locs hP hS => ?_)
  refine lv_if_eq (tgt := 17) hx hb dX0_earlierSet_5 (by decide) (fun c4 => ?_) (fun c4 => ?_)
  · have hf := (if_pos c4).symm.trans hf
    refine lv_iconst (v := 0) hx hb dX0_earlierSet_17 (by decide) ?_
    have he := Option.some.inj hf
    exact rI hx hb hr hP hS he hlocks dX0_earlierSet_18
  · have hf := (if_neg c4).symm.trans hf
    refine lv_aload_n hx hb dX0_earlierSet_8 rfl (lv_at hl 0 rfl) ?_
    refine gfX0_4 hx hb hts (fun _ h => List.mem_cons_of_mem _ (List.mem_append_right _ h)) hown hK hP (hts (Cond.fieldLink RX0 25 "WhoSpeaks$Chain" "earlier" "[I") (List.mem_of_getElem? (i := 1) rfl)) dX0_earlierSet_9 ?_
    refine lv_iload_n hx hb dX0_earlierSet_12 rfl (lv_at hl 1 rfl) ?_
    obtain ⟨c5, hf⟩ := ck_some hf
    refine alX12 hx hb hK hP c5 dX0_earlierSet_13 ?_
    refine lv_goto (tgt := 18) hx hb dX0_earlierSet_14 (by decide) ?_
    have he := Option.some.inj hf
    exact rI hx hb hr hP hS he hlocks dX0_earlierSet_18

def fJ6_bitCount_0f7a4 (p0 : Int32) : Int32 := (bnd ((p0 - ((((p0 : Int32).toUInt32 >>> ((1 : Int32).toUInt32 &&& Int32.toUInt32 31)).toInt32) &&& 1431655765))) (fun y6 => (bnd (((y6 &&& 858993459) + ((((y6 : Int32).toUInt32 >>> ((2 : Int32).toUInt32 &&& Int32.toUInt32 31)).toInt32) &&& 858993459))) (fun y7 => (bnd (((y7 + (((y7 : Int32).toUInt32 >>> ((4 : Int32).toUInt32 &&& Int32.toUInt32 31)).toInt32)) &&& 252645135)) (fun y8 => (bnd ((y8 + (((y8 : Int32).toUInt32 >>> ((8 : Int32).toUInt32 &&& Int32.toUInt32 31)).toInt32))) (fun y9 => (bnd ((y9 + (((y9 : Int32).toUInt32 >>> ((16 : Int32).toUInt32 &&& Int32.toUInt32 31)).toInt32))) (fun y10 => (y10 &&& 63)))))))))))
set_option maxHeartbeats 4000000 in
set_option maxRecDepth 100000 in
theorem okJ6_bitCount_0f7a4 (l : Launch) (D : va_G) (cy : Nat → ClassId) (A : Nat → Prop) (w : va_W) (p0 : Int32) (r : Int32) (hf : fJ6_bitCount_0f7a4 p0 = r) : MI l yJ6_bitCount_0f7a4 wsJ6_bitCount_0f7a4 { frames := 0, cells := 0, slots := 0, locals := 0 } D cy A w [.int p0] r w := by
  refine Met.ofW (cc := cJ6_bitCount_0f7a4) (maxL := 1) (ret := (some .int)) (by decide) rfl ?_
  intro p e s m args below meth c s₁ B hml hv
  obtain ⟨ha, hP, hK⟩ := hv
  have hx := B.exec
  have hb := B.bytes
  have hr := B.returns
  have hts := atoms_spec (ws := wsJ6_bitCount_0f7a4) B.pre
  have hown : s.vm.findClass RJ6 = some m.cls := findClass_of_methodNamed B.named
  have hlocks := B.notSynchronized
  have hS : va_S A s.heap s.heap [] := va_S.rf
  obtain ⟨ls, hl, he0⟩ := ent (m := m) ha (n := 1) (Nat.le_of_ble_eq_true rfl)
  refine W.eq he0 ?_
  have hl : lv_has ls 1 [(0, .int p0)] := hl
  unfold fJ6_bitCount_0f7a4 at hf
  suffices hG : ∀ (H : Heap) (locs : List Loc), va_P D vwCl w H → va_S A s.heap H locs → W p l e (headSpec wsJ6_bitCount_0f7a4 { frames := 0, cells := 0, slots := 0, locals := 0 }).room s m args below meth c H locs 0 0 (MQ below (QcI D A r w) args s 0 0 A) (F0 m 0 ls []) by exact hG s.heap [] hP va_S.rf
  clear hP hS
  intro H locs hP hS
  refine lv_iload_n hx hb dJ6_bitCount_0f7a4_0 rfl (lv_at hl 0 rfl) ?_
  refine lv_iload_n hx hb dJ6_bitCount_0f7a4_1 rfl (lv_at hl 0 rfl) ?_
  refine lv_iconst (v := 1) hx hb dJ6_bitCount_0f7a4_2 (by decide) ?_
  refine lv_iushr (v := (((p0 : Int32).toUInt32 >>> ((1 : Int32).toUInt32 &&& Int32.toUInt32 31)).toInt32)) hx hb dJ6_bitCount_0f7a4_3 rfl ?_
  refine lv_ldcw hx hb hown (hts (Cond.constant RJ6 265 (1431655765)) (List.mem_of_getElem? (i := 1) rfl)) dJ6_bitCount_0f7a4_4 ?_
  refine lv_iand hx hb dJ6_bitCount_0f7a4_7 ?_
  refine lv_isub hx hb dJ6_bitCount_0f7a4_8 ?_
  refine lv_topi (fun y6 ey6 => ?_)
  have hf := bnd_of ey6 hf
  refine lv_istore_n (lv' := [(0, .int y6)]) hx hb dJ6_bitCount_0f7a4_9 rfl hl (by decide) rfl (fun ls hl => ?_)
  refine lv_iload_n hx hb dJ6_bitCount_0f7a4_10 rfl (lv_at hl 0 rfl) ?_
  refine lv_ldcw hx hb hown (hts (Cond.constant RJ6 266 (858993459)) (List.mem_of_getElem? (i := 2) rfl)) dJ6_bitCount_0f7a4_11 ?_
  refine lv_iand hx hb dJ6_bitCount_0f7a4_14 ?_
  refine lv_iload_n hx hb dJ6_bitCount_0f7a4_15 rfl (lv_at hl 0 rfl) ?_
  refine lv_iconst (v := 2) hx hb dJ6_bitCount_0f7a4_16 (by decide) ?_
  refine lv_iushr (v := (((y6 : Int32).toUInt32 >>> ((2 : Int32).toUInt32 &&& Int32.toUInt32 31)).toInt32)) hx hb dJ6_bitCount_0f7a4_17 rfl ?_
  refine lv_ldcw hx hb hown (hts (Cond.constant RJ6 266 (858993459)) (List.mem_of_getElem? (i := 2) rfl)) dJ6_bitCount_0f7a4_18 ?_
  refine lv_iand hx hb dJ6_bitCount_0f7a4_21 ?_
  refine lv_iadd hx hb dJ6_bitCount_0f7a4_22 ?_
  refine lv_topi (fun y7 ey7 => ?_)
  have hf := bnd_of ey7 hf
  refine lv_istore_n (lv' := [(0, .int y7)]) hx hb dJ6_bitCount_0f7a4_23 rfl hl (by decide) rfl (fun ls hl => ?_)
  refine lv_iload_n hx hb dJ6_bitCount_0f7a4_24 rfl (lv_at hl 0 rfl) ?_
  refine lv_iload_n hx hb dJ6_bitCount_0f7a4_25 rfl (lv_at hl 0 rfl) ?_
  refine lv_iconst (v := 4) hx hb dJ6_bitCount_0f7a4_26 (by decide) ?_
  refine lv_iushr (v := (((y7 : Int32).toUInt32 >>> ((4 : Int32).toUInt32 &&& Int32.toUInt32 31)).toInt32)) hx hb dJ6_bitCount_0f7a4_27 rfl ?_
  refine lv_iadd hx hb dJ6_bitCount_0f7a4_28 ?_
  refine lv_ldcw hx hb hown (hts (Cond.constant RJ6 267 (252645135)) (List.mem_of_getElem? (i := 3) rfl)) dJ6_bitCount_0f7a4_29 ?_
  refine lv_iand hx hb dJ6_bitCount_0f7a4_32 ?_
  refine lv_topi (fun y8 ey8 => ?_)
  have hf := bnd_of ey8 hf
  refine lv_istore_n (lv' := [(0, .int y8)]) hx hb dJ6_bitCount_0f7a4_33 rfl hl (by decide) rfl (fun ls hl => ?_)
  refine lv_iload_n hx hb dJ6_bitCount_0f7a4_34 rfl (lv_at hl 0 rfl) ?_
  refine lv_iload_n hx hb dJ6_bitCount_0f7a4_35 rfl (lv_at hl 0 rfl) ?_
  refine lv_bipush (v := 8) hx hb dJ6_bitCount_0f7a4_36 (by decide) ?_
  refine lv_iushr (v := (((y8 : Int32).toUInt32 >>> ((8 : Int32).toUInt32 &&& Int32.toUInt32 31)).toInt32)) hx hb dJ6_bitCount_0f7a4_38 rfl ?_
  refine lv_iadd hx hb dJ6_bitCount_0f7a4_39 ?_
  refine lv_topi (fun y9 ey9 => ?_)
  have hf := bnd_of ey9 hf
  refine lv_istore_n (lv' := [(0, .int y9)]) hx hb dJ6_bitCount_0f7a4_40 rfl hl (by decide) rfl (fun ls hl => ?_)
  refine lv_iload_n hx hb dJ6_bitCount_0f7a4_41 rfl (lv_at hl 0 rfl) ?_
  refine lv_iload_n hx hb dJ6_bitCount_0f7a4_42 rfl (lv_at hl 0 rfl) ?_
  refine lv_bipush (v := 16) hx hb dJ6_bitCount_0f7a4_43 (by decide) ?_
  refine lv_iushr (v := (((y9 : Int32).toUInt32 >>> ((16 : Int32).toUInt32 &&& Int32.toUInt32 31)).toInt32)) hx hb dJ6_bitCount_0f7a4_45 rfl ?_
  refine lv_iadd hx hb dJ6_bitCount_0f7a4_46 ?_
  refine lv_topi (fun y10 ey10 => ?_)
  have hf := bnd_of ey10 hf
  refine lv_istore_n (lv' := [(0, .int y10)]) hx hb dJ6_bitCount_0f7a4_47 rfl hl (by decide) rfl (fun ls hl => ?_)
  refine lv_iload_n hx hb dJ6_bitCount_0f7a4_48 rfl (lv_at hl 0 rfl) ?_
  refine lv_bipush (v := 63) hx hb dJ6_bitCount_0f7a4_49 (by decide) ?_
  refine lv_iand hx hb dJ6_bitCount_0f7a4_51 ?_
  have he := hf
  exact rI hx hb hr hP hS he hlocks dJ6_bitCount_0f7a4_52
