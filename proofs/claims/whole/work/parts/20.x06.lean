def bX0_leftBy_25  (x0 : Int32) (s0 : Bool) : Int32 := (if (bi s0) = 0 then 255 else (255 &&& (x0 ^^^ (-1))))
def fX0_leftBy (p0 : Int32) (p1 : Int32) : Int32 := (if p1 = 1 then p0 else (if p1 = 2 then (if (fJ6_bitCount_0f7a4 p0) = 1 then (bX0_leftBy_25  (p0) (true)) else (bX0_leftBy_25  (p0) (false))) else (bX0_leftBy_25  (p0) (false))))
set_option maxHeartbeats 4000000 in
set_option maxRecDepth 100000 in
theorem okX0_leftBy (l : Launch) (D : va_G) (cy : Nat → ClassId) (A : Nat → Prop) (w : va_W) (p0 : Int32) (p1 : Int32) (r : Int32) (hf : fX0_leftBy p0 p1 = r) : MI l yX0_leftBy wsX0_leftBy { frames := 1, cells := 0, slots := 0, locals := 20 } D cy A w [.int p0, .int p1] r w := by
  refine Met.ofW (cc := cX0_leftBy) (maxL := 3) (ret := (some .int)) (by decide) rfl ?_
  intro p e s m args below meth c s₁ B hml hv
  obtain ⟨ha, hP, hK⟩ := hv
  have hx := B.exec
  have hb := B.bytes
  have hr := B.returns
  have hts := atoms_spec (ws := wsX0_leftBy) B.pre
  have hown : s.vm.findClass RX0 = some m.cls := findClass_of_methodNamed B.named
  have hlocks := B.notSynchronized
  have hS : va_S A s.heap s.heap [] := va_S.rf
  obtain ⟨ls, hl, he0⟩ := ent (m := m) ha (n := 3) (Nat.le_of_ble_eq_true rfl)
  refine W.eq he0 ?_
  have hl : lv_has ls 3 [(0, .int p0), (1, .int p1)] := hl
  have K25 : ∀ (x0 : Int32) (s0 : Bool) (H : Heap) (locs : List Loc) (ls : Array Slot), va_P D vwCl w H → va_S A s.heap H locs → lv_has ls 3 [(0, .int x0)] → bX0_leftBy_25  x0 s0 = r → W p l e (headSpec wsX0_leftBy { frames := 1, cells := 0, slots := 0, locals := 20 }).room s m args below meth c H locs 0 0 (MQ below (QcI D A r w) args s 0 0 A) (F0 m 25 ls [.int (bi s0)]) := by
    intro  x0 s0 H locs ls hP hS hl hf
    unfold bX0_leftBy_25 at hf
    refine lv_istore_n (lv' := [(2, .int (bi s0)), (0, .int x0)]) hx hb dX0_leftBy_25 rfl hl (by decide) rfl (fun ls hl => ?_)
    refine lv_iload_n hx hb dX0_leftBy_26 rfl (lv_at hl 0 rfl) ?_
    refine lv_if_eq (tgt := 40) hx hb dX0_leftBy_27 (by decide) (fun c8 => ?_) (fun c8 => ?_)
    · have hf := (if_pos c8).symm.trans hf
      refine lv_sipush (v := 255) hx hb dX0_leftBy_40 (by decide) ?_
      have he := hf
      exact rI hx hb hr hP hS he hlocks dX0_leftBy_43
    · have hf := (if_neg c8).symm.trans hf
      refine lv_sipush (v := 255) hx hb dX0_leftBy_30 (by decide) ?_
      refine lv_iload_n hx hb dX0_leftBy_33 rfl (lv_at hl 1 rfl) ?_
      refine lv_iconst (v := (-1)) hx hb dX0_leftBy_34 (by decide) ?_
      refine lv_ixor hx hb dX0_leftBy_35 ?_
      refine lv_iand hx hb dX0_leftBy_36 ?_
      refine lv_goto (tgt := 43) hx hb dX0_leftBy_37 (by decide) ?_
      have he := hf
      exact rI hx hb hr hP hS he hlocks dX0_leftBy_43
  unfold fX0_leftBy at hf
  suffices hG : ∀ (H : Heap) (locs : List Loc), va_P D vwCl w H → va_S A s.heap H locs → W p l e (headSpec wsX0_leftBy { frames := 1, cells := 0, slots := 0, locals := 20 }).room s m args below meth c H locs 0 0 (MQ below (QcI D A r w) args s 0 0 A) (F0 m 0 ls []) by exact hG s.heap [] hP va_S.rf
  clear hP hS
  intro H locs hP hS
  refine lv_iload_n hx hb dX0_leftBy_0 rfl (lv_at hl 1 rfl) ?_
  refine lv_iconst (v := 1) hx hb dX0_leftBy_1 (by decide) ?_
  refine lv_icmp_ne (tgt := 7) hx hb dX0_leftBy_2 (by decide) (fun c9 => ?_) (fun c9 => ?_)
  · have hf := (if_neg c9).symm.trans hf
    refine lv_iload_n hx hb dX0_leftBy_7 rfl (lv_at hl 1 rfl) ?_
    refine lv_iconst (v := 2) hx hb dX0_leftBy_8 (by decide) ?_
    refine lv_icmp_ne (tgt := 24) hx hb dX0_leftBy_9 (by decide) (fun c10 => ?_) (fun c10 => ?_)
    · have hf := (if_neg c10).symm.trans hf
      refine lv_iconst (v := 0) hx hb dX0_leftBy_24 (by decide) ?_
      exact K25  (p0) (false) H locs ls hP hS (lv_sub hl [0] rfl) hf
    · have hf := (if_pos c10).symm.trans hf
      refine lv_iload_n hx hb dX0_leftBy_12 rfl (lv_at hl 0 rfl) ?_
      refine kSi (As := [.int p0]) (rest := []) ⟨hx, hb, hml, hown, hts⟩ (okJ6_bitCount_0f7a4 l D cy A w p0 _ rfl) (va_cwS 1 hts gX0_leftBy_J6_bitCount_0f7a4 rfl rfl rfl (by decide +kernel) ⟨Nat.le_of_ble_eq_true rfl, Nat.le_of_ble_eq_true rfl⟩) hK hP hS rfl hl.1 rfl (Nat.le_of_ble_eq_true rfl) dX0_leftBy_13 (fun H locs hP hS => ?_)
      refine lv_iconst (v := 1) hx hb dX0_leftBy_16 (by decide) ?_
      refine lv_icmp_ne (tgt := 24) hx hb dX0_leftBy_17 (by decide) (fun c12 => ?_) (fun c12 => ?_)
      · have hf := (if_neg c12).symm.trans hf
        refine lv_iconst (v := 0) hx hb dX0_leftBy_24 (by decide) ?_
        exact K25  (p0) (false) H locs ls hP hS (lv_sub hl [0] rfl) hf
      · have hf := (if_pos c12).symm.trans hf
        refine lv_iconst (v := 1) hx hb dX0_leftBy_20 (by decide) ?_
        refine lv_goto (tgt := 25) hx hb dX0_leftBy_21 (by decide) ?_
        exact K25  (p0) (true) H locs ls hP hS (lv_sub hl [0] rfl) hf
  · have hf := (if_pos c9).symm.trans hf
    refine lv_iload_n hx hb dX0_leftBy_5 rfl (lv_at hl 0 rfl) ?_
    have he := hf
    exact rI hx hb hr hP hS he hlocks dX0_leftBy_6

def bX0_narrowOnce_30  (k30 : Bool × Int32 × XS → Option (Bool × XS)) (x1 : Bool) (x2 : Int32) (S : XS) : Option (Bool × XS) := (if 16 ≤ x2 then (some (x1, S)) else (ck x2 16 (ob1 (fX0_earlierSet (x2 - 1) S) (fun r43 => (ob1 (fX0_linkAt x2 S) (fun r45 => (ob1 (fX0_earlierSet (x2 + 1) S) (fun r48 => (ob1 (fX0_linkAt (x2 + 1) S) (fun r50 => (ck x2 16 (bnd (xaW S 11 x2.toNatClampNeg (((xa S 12 x2.toNatClampNeg) &&& (fX0_leftBy r43 r45)) &&& (fX0_leftBy r48 r50))) (fun S53 => (if (bi x1) = 0 then (ck x2 16 (ck x2 16 (if (xa S53 11 x2.toNatClampNeg) = (xa S53 12 x2.toNatClampNeg) then (k30 (false, (x2 + 1), S53)) else (k30 (true, (x2 + 1), S53))))) else (k30 (true, (x2 + 1), S53))))))))))))))))
def bX0_narrowOnce_2  (k2 : Int32 × XS → Option (Bool × XS)) (x1 : Int32) (S : XS) : Option (Bool × XS) := (if 16 ≤ x1 then (lp (fun k q => bX0_narrowOnce_30  k q.1 q.2.1 q.2.2) FU (false, 0, S)) else (ck x1 16 (ck x1 16 (bnd (xaW S 12 x1.toNatClampNeg (xa S 11 x1.toNatClampNeg)) (fun S61 => (k2 ((x1 + 1), S61)))))))
def fX0_narrowOnce  (S : XS) : Option (Bool × XS) := (lp (fun k q => bX0_narrowOnce_2  k q.1 q.2) FU (0, S))
set_option maxHeartbeats 4000000 in
set_option maxRecDepth 100000 in
theorem okX0_narrowOnce (l : Launch) (D : va_G) (cy : Nat → ClassId) (ad : Nat → Nat) (A : Nat → Prop) (hD : ∀ S, va_D A (wX cy ad S))  (S : XS) (r : Bool) (S' : XS) (hf : fX0_narrowOnce  S = some (r, S')) : MI l yX0_narrowOnce wsX0_narrowOnce { frames := 3, cells := 0, slots := 0, locals := 63 } D cy A (wX cy ad S) [.ref (ad 7)] (bi r) (wX cy ad S') := by
  refine Met.ofW (cc := cX0_narrowOnce) (maxL := 3) (ret := (some .boolean)) (by decide) rfl ?_
  intro p e s m args below meth c s₁ B hml hv
  obtain ⟨ha, hP, hK⟩ := hv
  have hx := B.exec
  have hb := B.bytes
  have hr := B.returns
  have hts := atoms_spec (ws := wsX0_narrowOnce) B.pre
  have hown : s.vm.findClass RX0 = some m.cls := findClass_of_methodNamed B.named
  have hlocks := B.notSynchronized
  have hS : va_S A s.heap s.heap [] := va_S.rf
  obtain ⟨ls, hl, he0⟩ := ent (m := m) ha (n := 3) (Nat.le_of_ble_eq_true rfl)
  refine W.eq he0 ?_
  have hl : lv_has ls 3 [(0, .ref (ad 7))] := hl
  have K30 : ∀ (n : Nat), ∀ (x1 : Bool) (x2 : Int32) (S : XS) (H : Heap) (locs : List Loc) (ls : Array Slot), va_P D vwCl (wX cy ad S) H → va_S A s.heap H locs → lv_has ls 3 [(0, .ref (ad 7)), (1, .int (bi x1)), (2, .int x2)] → lp (fun k q => bX0_narrowOnce_30  k q.1 q.2.1 q.2.2) n (x1, x2, S) = some (r, S') → W p l e (headSpec wsX0_narrowOnce { frames := 3, cells := 0, slots := 0, locals := 63 }).room s m args below meth c H locs 0 0 (MQ below (QcI D A (bi r) (wX cy ad S')) args s 0 0 A) (F0 m 30 ls []) := by
    intro  n
    induction n with
    | zero =>
      intro x1 x2 S H locs ls hP hS hl hf
      cases hf
    | succ n ih30 =>
      intro x1 x2 S H locs ls hP hS hl hf
      have hf : bX0_narrowOnce_30  (lp (fun k q => bX0_narrowOnce_30  k q.1 q.2.1 q.2.2) n) x1 x2 S = some (r, S') := hf
      generalize lp (fun k q => bX0_narrowOnce_30  k q.1 q.2.1 q.2.2) n = k30 at hf ih30
      unfold bX0_narrowOnce_30 at hf
      refine lv_iload_n hx hb dX0_narrowOnce_30 rfl (lv_at hl 2 rfl) ?_
      refine lv_bipush (v := 16) hx hb dX0_narrowOnce_31 (by decide) ?_
      refine lv_icmp_ge (tgt := 113) hx hb dX0_narrowOnce_33 (by decide) (fun c41 => ?_) (fun c41 => ?_)
      · have hf := (if_pos c41).symm.trans hf
        refine lv_iload_n hx hb dX0_narrowOnce_113 rfl (lv_at hl 1 rfl) ?_
        obtain ⟨he, hS9⟩ := Prod.mk.inj (Option.some.inj hf)
        subst hS9
        exact rZ hx hb hr (bi_nar x1) hP hS (congrArg bi he) hlocks dX0_narrowOnce_114
      · have hf := (if_neg c41).symm.trans hf
        refine lv_aload_n hx hb dX0_narrowOnce_36 rfl (lv_at hl 0 rfl) ?_
        refine gfX0_3 hx hb hts (fun _ h => List.mem_cons_of_mem _ (List.mem_append_right _ h)) hown hK hP (hts (Cond.fieldLink RX0 22 "WhoSpeaks$Chain" "narrowed" "[I") (List.mem_of_getElem? (i := 2) rfl)) dX0_narrowOnce_37 ?_
        refine lv_iload_n hx hb dX0_narrowOnce_40 rfl (lv_at hl 2 rfl) ?_
        refine lv_aload_n hx hb dX0_narrowOnce_41 rfl (lv_at hl 0 rfl) ?_
        refine gfX0_4 hx hb hts (fun _ h => List.mem_cons_of_mem _ (List.mem_append_right _ h)) hown hK hP (hts (Cond.fieldLink RX0 25 "WhoSpeaks$Chain" "earlier" "[I") (List.mem_of_getElem? (i := 1) rfl)) dX0_narrowOnce_42 ?_
        refine lv_iload_n hx hb dX0_narrowOnce_45 rfl (lv_at hl 2 rfl) ?_
        obtain ⟨c42, hf⟩ := ck_some hf
        refine alX12 hx hb hK hP c42 dX0_narrowOnce_46 ?_
        refine lv_aload_n hx hb dX0_narrowOnce_47 rfl (lv_at hl 0 rfl) ?_
        refine lv_iload_n hx hb dX0_narrowOnce_48 rfl (lv_at hl 2 rfl) ?_
        refine lv_iconst (v := 1) hx hb dX0_narrowOnce_49 (by decide) ?_
        refine lv_isub hx hb dX0_narrowOnce_50 ?_
        obtain ⟨r43, h44, hf⟩ := ob1_some hf
        refine kVi (As := [.int (x2 - 1)]) (rest := [.int (xa S 12 x2.toNatClampNeg), .int x2, .ref (ad 11)]) ⟨hx, hb, hml, hown, hts⟩ (okX0_earlierSet l D cy ad A hD (x2 - 1) S r43 h44) (cwV 1 hts gX0_narrowOnce_X0_earlierSet rfl rfl rfl (by decide +kernel) ⟨Nat.le_of_ble_eq_true rfl, Nat.le_of_ble_eq_true rfl⟩) hK hP hS (va_recv hK.1 hP (ci := 0) (q := (RX0, TX0, 9)) rfl (atX7 cy ad S)) rfl hl.1 rfl (Nat.le_of_ble_eq_true rfl) dX0_narrowOnce_51 (fun H locs hP hS => ?_)
        refine lv_aload_n hx hb dX0_narrowOnce_54 rfl (lv_at hl 0 rfl) ?_
        refine lv_iload_n hx hb dX0_narrowOnce_55 rfl (lv_at hl 2 rfl) ?_
        obtain ⟨r45, h46, hf⟩ := ob1_some hf
        refine kVi (As := [.int x2]) (rest := [.int r43, .int (xa S 12 x2.toNatClampNeg), .int x2, .ref (ad 11)]) ⟨hx, hb, hml, hown, hts⟩ (okX0_linkAt l D cy ad A hD x2 S r45 h46) (cwV 1 hts gX0_narrowOnce_X0_linkAt rfl rfl rfl (by decide +kernel) ⟨Nat.le_of_ble_eq_true rfl, Nat.le_of_ble_eq_true rfl⟩) hK hP hS (va_recv hK.1 hP (ci := 0) (q := (RX0, TX0, 9)) rfl (atX7 cy ad S)) rfl hl.1 rfl (Nat.le_of_ble_eq_true rfl) dX0_narrowOnce_56 (fun H locs hP hS => ?_)
        refine kSi (As := [.int r43, .int r45]) (rest := [.int (xa S 12 x2.toNatClampNeg), .int x2, .ref (ad 11)]) ⟨hx, hb, hml, hown, hts⟩ (okX0_leftBy l D cy A (wX cy ad S) r43 r45 _ rfl) (va_cwS 2 hts gX0_narrowOnce_X0_leftBy rfl rfl rfl (by decide +kernel) ⟨Nat.le_of_ble_eq_true rfl, Nat.le_of_ble_eq_true rfl⟩) hK hP hS rfl hl.1 rfl (Nat.le_of_ble_eq_true rfl) dX0_narrowOnce_59 (fun H locs hP hS => ?_)
        refine lv_iand hx hb dX0_narrowOnce_62 ?_
        refine lv_aload_n hx hb dX0_narrowOnce_63 rfl (lv_at hl 0 rfl) ?_
        refine lv_iload_n hx hb dX0_narrowOnce_64 rfl (lv_at hl 2 rfl) ?_
        refine lv_iconst (v := 1) hx hb dX0_narrowOnce_65 (by decide) ?_
        refine lv_iadd hx hb dX0_narrowOnce_66 ?_
        obtain ⟨r48, h49, hf⟩ := ob1_some hf
        refine kVi (As := [.int (x2 + 1)]) (rest := [.int ((xa S 12 x2.toNatClampNeg) &&& (fX0_leftBy r43 r45)), .int x2, .ref (ad 11)]) ⟨hx, hb, hml, hown, hts⟩ (okX0_earlierSet l D cy ad A hD (x2 + 1) S r48 h49) (cwV 1 hts gX0_narrowOnce_X0_earlierSet rfl rfl rfl (by decide +kernel) ⟨Nat.le_of_ble_eq_true rfl, Nat.le_of_ble_eq_true rfl⟩) hK hP hS (va_recv hK.1 hP (ci := 0) (q := (RX0, TX0, 9)) rfl (atX7 cy ad S)) rfl hl.1 rfl (Nat.le_of_ble_eq_true rfl) dX0_narrowOnce_67 (fun H locs hP hS => ?_)
        refine lv_aload_n hx hb dX0_narrowOnce_70 rfl (lv_at hl 0 rfl) ?_
        refine lv_iload_n hx hb dX0_narrowOnce_71 rfl (lv_at hl 2 rfl) ?_
        refine lv_iconst (v := 1) hx hb dX0_narrowOnce_72 (by decide) ?_
        refine lv_iadd hx hb dX0_narrowOnce_73 ?_
        obtain ⟨r50, h51, hf⟩ := ob1_some hf
        refine kVi (As := [.int (x2 + 1)]) (rest := [.int r48, .int ((xa S 12 x2.toNatClampNeg) &&& (fX0_leftBy r43 r45)), .int x2, .ref (ad 11)]) ⟨hx, hb, hml, hown, hts⟩ (okX0_linkAt l D cy ad A hD (x2 + 1) S r50 h51) (cwV 1 hts gX0_narrowOnce_X0_linkAt rfl rfl rfl (by decide +kernel) ⟨Nat.le_of_ble_eq_true rfl, Nat.le_of_ble_eq_true rfl⟩) hK hP hS (va_recv hK.1 hP (ci := 0) (q := (RX0, TX0, 9)) rfl (atX7 cy ad S)) rfl hl.1 rfl (Nat.le_of_ble_eq_true rfl) dX0_narrowOnce_74 (fun H locs hP hS => ?_)
        refine kSi (As := [.int r48, .int r50]) (rest := [.int ((xa S 12 x2.toNatClampNeg) &&& (fX0_leftBy r43 r45)), .int x2, .ref (ad 11)]) ⟨hx, hb, hml, hown, hts⟩ (okX0_leftBy l D cy A (wX cy ad S) r48 r50 _ rfl) (va_cwS 2 hts gX0_narrowOnce_X0_leftBy rfl rfl rfl (by decide +kernel) ⟨Nat.le_of_ble_eq_true rfl, Nat.le_of_ble_eq_true rfl⟩) hK hP hS rfl hl.1 rfl (Nat.le_of_ble_eq_true rfl) dX0_narrowOnce_77 (fun H locs hP hS => ?_)
        refine lv_iand hx hb dX0_narrowOnce_80 ?_
        obtain ⟨c54, hf⟩ := ck_some hf
        refine asX11 (v := (((xa S 12 x2.toNatClampNeg) &&& (fX0_leftBy r43 r45)) &&& (fX0_leftBy r48 r50))) hx hb hK hP hD hS c54 dX0_narrowOnce_81 (fun S53 eS53 H locs hP hS => ?_)
        have hf := bnd_of eS53 hf
        refine lv_iload_n hx hb dX0_narrowOnce_82 rfl (lv_at hl 1 rfl) ?_
        refine lv_if_ne (tgt := 101) hx hb dX0_narrowOnce_83 (by decide) (fun c55 => ?_) (fun c55 => ?_)
        · have hf := (if_neg c55).symm.trans hf
          refine lv_iconst (v := 1) hx hb dX0_narrowOnce_101 (by decide) ?_
          refine lv_goto (tgt := 106) hx hb dX0_narrowOnce_102 (by decide) ?_
          refine lv_istore_n (lv' := [(1, .int 1), (0, .ref (ad 7)), (2, .int x2)]) hx hb dX0_narrowOnce_106 rfl hl (by decide) rfl (fun ls hl => ?_)
          refine lv_iinc (v := (x2 + 1)) (lv' := [(2, .int (x2 + 1)), (1, .int 1), (0, .ref (ad 7))]) hx hb dX0_narrowOnce_107 hl (k := 2) rfl rfl (by decide) rfl (fun ls hl => ?_)
          refine lv_goto (tgt := 30) hx hb dX0_narrowOnce_110 (by decide) ?_
          exact ih30 (true) ((x2 + 1)) S53 H locs ls hP hS (lv_sub hl [2, 1, 0] rfl) hf
        · have hf := (if_pos c55).symm.trans hf
          refine lv_aload_n hx hb dX0_narrowOnce_86 rfl (lv_at hl 0 rfl) ?_
          refine gfX0_3 hx hb hts (fun _ h => List.mem_cons_of_mem _ (List.mem_append_right _ h)) hown hK hP (hts (Cond.fieldLink RX0 22 "WhoSpeaks$Chain" "narrowed" "[I") (List.mem_of_getElem? (i := 2) rfl)) dX0_narrowOnce_87 ?_
          refine lv_iload_n hx hb dX0_narrowOnce_90 rfl (lv_at hl 2 rfl) ?_
          obtain ⟨c56, hf⟩ := ck_some hf
          refine alX11 hx hb hK hP c56 dX0_narrowOnce_91 ?_
          refine lv_aload_n hx hb dX0_narrowOnce_92 rfl (lv_at hl 0 rfl) ?_
          refine gfX0_4 hx hb hts (fun _ h => List.mem_cons_of_mem _ (List.mem_append_right _ h)) hown hK hP (hts (Cond.fieldLink RX0 25 "WhoSpeaks$Chain" "earlier" "[I") (List.mem_of_getElem? (i := 1) rfl)) dX0_narrowOnce_93 ?_
          refine lv_iload_n hx hb dX0_narrowOnce_96 rfl (lv_at hl 2 rfl) ?_
          obtain ⟨c57, hf⟩ := ck_some hf
          refine alX12 hx hb hK hP c57 dX0_narrowOnce_97 ?_
          refine lv_icmp_eq (tgt := 105) hx hb dX0_narrowOnce_98 (by decide) (fun c58 => ?_) (fun c58 => ?_)
          · have hf := (if_pos c58).symm.trans hf
            refine lv_iconst (v := 0) hx hb dX0_narrowOnce_105 (by decide) ?_
            refine lv_istore_n (lv' := [(1, .int 0), (0, .ref (ad 7)), (2, .int x2)]) hx hb dX0_narrowOnce_106 rfl hl (by decide) rfl (fun ls hl => ?_)
            refine lv_iinc (v := (x2 + 1)) (lv' := [(2, .int (x2 + 1)), (1, .int 0), (0, .ref (ad 7))]) hx hb dX0_narrowOnce_107 hl (k := 2) rfl rfl (by decide) rfl (fun ls hl => ?_)
            refine lv_goto (tgt := 30) hx hb dX0_narrowOnce_110 (by decide) ?_
            exact ih30 (false) ((x2 + 1)) S53 H locs ls hP hS (lv_sub hl [2, 1, 0] rfl) hf
          · have hf := (if_neg c58).symm.trans hf
            refine lv_iconst (v := 1) hx hb dX0_narrowOnce_101 (by decide) ?_
            refine lv_goto (tgt := 106) hx hb dX0_narrowOnce_102 (by decide) ?_
            refine lv_istore_n (lv' := [(1, .int 1), (0, .ref (ad 7)), (2, .int x2)]) hx hb dX0_narrowOnce_106 rfl hl (by decide) rfl (fun ls hl => ?_)
            refine lv_iinc (v := (x2 + 1)) (lv' := [(2, .int (x2 + 1)), (1, .int 1), (0, .ref (ad 7))]) hx hb dX0_narrowOnce_107 hl (k := 2) rfl rfl (by decide) rfl (fun ls hl => ?_)
            refine lv_goto (tgt := 30) hx hb dX0_narrowOnce_110 (by decide) ?_
            exact ih30 (true) ((x2 + 1)) S53 H locs ls hP hS (lv_sub hl [2, 1, 0] rfl) hf
  have K2 : ∀ (n : Nat), ∀ (x1 : Int32) (S : XS) (H : Heap) (locs : List Loc) (ls : Array Slot), va_P D vwCl (wX cy ad S) H → va_S A s.heap H locs → lv_has ls 3 [(0, .ref (ad 7)), (1, .int x1)] → lp (fun k q => bX0_narrowOnce_2  k q.1 q.2) n (x1, S) = some (r, S') → W p l e (headSpec wsX0_narrowOnce { frames := 3, cells := 0, slots := 0, locals := 63 }).room s m args below meth c H locs 0 0 (MQ below (QcI D A (bi r) (wX cy ad S')) args s 0 0 A) (F0 m 2 ls []) := by
    intro  n
    induction n with
    | zero =>
      intro x1 S H locs ls hP hS hl hf
      cases hf
    | succ n ih2 =>
      intro x1 S H locs ls hP hS hl hf
      have hf : bX0_narrowOnce_2  (lp (fun k q => bX0_narrowOnce_2  k q.1 q.2) n) x1 S = some (r, S') := hf
      generalize lp (fun k q => bX0_narrowOnce_2  k q.1 q.2) n = k2 at hf ih2
      unfold bX0_narrowOnce_2 at hf
      refine lv_iload_n hx hb dX0_narrowOnce_2 rfl (lv_at hl 1 rfl) ?_
      refine lv_bipush (v := 16) hx hb dX0_narrowOnce_3 (by decide) ?_
      refine lv_icmp_ge (tgt := 26) hx hb dX0_narrowOnce_5 (by decide) (fun c59 => ?_) (fun c59 => ?_)
      · have hf := (if_pos c59).symm.trans hf
        refine lv_iconst (v := 0) hx hb dX0_narrowOnce_26 (by decide) ?_
        refine lv_istore_n (lv' := [(1, .int 0), (0, .ref (ad 7))]) hx hb dX0_narrowOnce_27 rfl hl (by decide) rfl (fun ls hl => ?_)
        refine lv_iconst (v := 0) hx hb dX0_narrowOnce_28 (by decide) ?_
        refine lv_istore_n (lv' := [(2, .int 0), (1, .int 0), (0, .ref (ad 7))]) hx hb dX0_narrowOnce_29 rfl hl (by decide) rfl (fun ls hl => ?_)
        exact K30  FU (false) (0) S H locs ls hP hS (lv_sub hl [2, 1, 0] rfl) hf
      · have hf := (if_neg c59).symm.trans hf
        refine lv_aload_n hx hb dX0_narrowOnce_8 rfl (lv_at hl 0 rfl) ?_
        refine gfX0_4 hx hb hts (fun _ h => List.mem_cons_of_mem _ (List.mem_append_right _ h)) hown hK hP (hts (Cond.fieldLink RX0 25 "WhoSpeaks$Chain" "earlier" "[I") (List.mem_of_getElem? (i := 1) rfl)) dX0_narrowOnce_9 ?_
        refine lv_iload_n hx hb dX0_narrowOnce_12 rfl (lv_at hl 1 rfl) ?_
        refine lv_aload_n hx hb dX0_narrowOnce_13 rfl (lv_at hl 0 rfl) ?_
        refine gfX0_3 hx hb hts (fun _ h => List.mem_cons_of_mem _ (List.mem_append_right _ h)) hown hK hP (hts (Cond.fieldLink RX0 22 "WhoSpeaks$Chain" "narrowed" "[I") (List.mem_of_getElem? (i := 2) rfl)) dX0_narrowOnce_14 ?_
        refine lv_iload_n hx hb dX0_narrowOnce_17 rfl (lv_at hl 1 rfl) ?_
        obtain ⟨c60, hf⟩ := ck_some hf
        refine alX11 hx hb hK hP c60 dX0_narrowOnce_18 ?_
        obtain ⟨c62, hf⟩ := ck_some hf
        refine asX12 (v := (xa S 11 x1.toNatClampNeg)) hx hb hK hP hD hS c62 dX0_narrowOnce_19 (fun S61 eS61 H locs hP hS => ?_)
        have hf := bnd_of eS61 hf
        refine lv_iinc (v := (x1 + 1)) (lv' := [(1, .int (x1 + 1)), (0, .ref (ad 7))]) hx hb dX0_narrowOnce_20 hl (k := 1) rfl rfl (by decide) rfl (fun ls hl => ?_)
        refine lv_goto (tgt := 2) hx hb dX0_narrowOnce_23 (by decide) ?_
        exact ih2 ((x1 + 1)) S61 H locs ls hP hS (lv_sub hl [1, 0] rfl) hf
  unfold fX0_narrowOnce at hf
  suffices hG : ∀ (H : Heap) (locs : List Loc), va_P D vwCl (wX cy ad S) H → va_S A s.heap H locs → W p l e (headSpec wsX0_narrowOnce { frames := 3, cells := 0, slots := 0, locals := 63 }).room s m args below meth c H locs 0 0 (MQ below (QcI D A (bi r) (wX cy ad S')) args s 0 0 A) (F0 m 0 ls []) by exact hG s.heap [] hP va_S.rf
  clear hP hS
  intro H locs hP hS
  refine lv_iconst (v := 0) hx hb dX0_narrowOnce_0 (by decide) ?_
  refine lv_istore_n (lv' := [(1, .int 0), (0, .ref (ad 7))]) hx hb dX0_narrowOnce_1 rfl hl (by decide) rfl (fun ls hl => ?_)
  exact K2  FU (0) S H locs ls hP hS (lv_sub hl [1, 0] rfl) hf

def bX0_narrow_33  (k33 : Bool × Int32 × XS → Option XS) (x2 : Bool) (x3 : Int32) (S : XS) : Option XS := (if (bi x2) = 0 then (some S) else (if 129 ≤ x3 then (some S) else (ob2 (fX0_narrowOnce  S) (fun r21 S23 => (k33 (r21, (x3 + 1), S23))))))
def bX0_narrow_2  (k2 : Int32 × XS → Option XS) (x1 : Int32) (S : XS) : Option XS := (if 16 ≤ x1 then (lp (fun k q => bX0_narrow_33  k q.1 q.2.1 q.2.2) FU (true, 0, S)) else (ob1 (fX0_ownSet x1 S) (fun r25 => (ck x1 16 (bnd (xaW S 11 x1.toNatClampNeg r25) (fun S27 => (k2 ((x1 + 1), S27))))))))
def fX0_narrow  (S : XS) : Option XS := (lp (fun k q => bX0_narrow_2  k q.1 q.2) FU (0, S))
set_option maxHeartbeats 4000000 in
set_option maxRecDepth 100000 in
theorem okX0_narrow (l : Launch) (D : va_G) (cy : Nat → ClassId) (ad : Nat → Nat) (A : Nat → Prop) (hD : ∀ S, va_D A (wX cy ad S))  (S : XS) (S' : XS) (hf : fX0_narrow  S = some S') : MV l yX0_narrow wsX0_narrow { frames := 4, cells := 0, slots := 0, locals := 85 } D cy A (wX cy ad S) [.ref (ad 7)] (wX cy ad S') := by
  refine Met.ofW (cc := cX0_narrow) (maxL := 4) (ret := none) (by decide) rfl ?_
  intro p e s m args below meth c s₁ B hml hv
  obtain ⟨ha, hP, hK⟩ := hv
  have hx := B.exec
  have hb := B.bytes
  have hr := B.returns
  have hts := atoms_spec (ws := wsX0_narrow) B.pre
  have hown : s.vm.findClass RX0 = some m.cls := findClass_of_methodNamed B.named
  have hlocks := B.notSynchronized
  have hS : va_S A s.heap s.heap [] := va_S.rf
  obtain ⟨ls, hl, he0⟩ := ent (m := m) ha (n := 4) (Nat.le_of_ble_eq_true rfl)
  refine W.eq he0 ?_
  have hl : lv_has ls 4 [(0, .ref (ad 7))] := hl
  have K33 : ∀ (n : Nat), ∀ (x2 : Bool) (x3 : Int32) (S : XS) (H : Heap) (locs : List Loc) (ls : Array Slot), va_P D vwCl (wX cy ad S) H → va_S A s.heap H locs → lv_has ls 4 [(0, .ref (ad 7)), (1, .int 129), (2, .int (bi x2)), (3, .int x3)] → lp (fun k q => bX0_narrow_33  k q.1 q.2.1 q.2.2) n (x2, x3, S) = some S' → W p l e (headSpec wsX0_narrow { frames := 4, cells := 0, slots := 0, locals := 85 }).room s m args below meth c H locs 0 0 (MQ below (QcV D A (wX cy ad S')) args s 0 0 A) (F0 m 33 ls []) := by
    intro  n
    induction n with
    | zero =>
      intro x2 x3 S H locs ls hP hS hl hf
      cases hf
    | succ n ih33 =>
      intro x2 x3 S H locs ls hP hS hl hf
      have hf : bX0_narrow_33  (lp (fun k q => bX0_narrow_33  k q.1 q.2.1 q.2.2) n) x2 x3 S = some S' := hf
      generalize lp (fun k q => bX0_narrow_33  k q.1 q.2.1 q.2.2) n = k33 at hf ih33
      unfold bX0_narrow_33 at hf
      refine lv_iload_n hx hb dX0_narrow_33 rfl (lv_at hl 2 rfl) ?_
      refine lv_if_eq (tgt := 53) hx hb dX0_narrow_34 (by decide) (fun c19 => ?_) (fun c19 => ?_)
      · have hf := (if_pos c19).symm.trans hf
        cases hf
        exact rV hx hb hr hP hS hlocks dX0_narrow_53
      · have hf := (if_neg c19).symm.trans hf
        refine lv_iload_n hx hb dX0_narrow_37 rfl (lv_at hl 3 rfl) ?_
        refine lv_iload_n hx hb dX0_narrow_38 rfl (lv_at hl 1 rfl) ?_
        refine lv_icmp_ge (tgt := 53) hx hb dX0_narrow_39 (by decide) (fun c20 => ?_) (fun c20 => ?_)
        · have hf := (if_pos c20).symm.trans hf
          cases hf
          exact rV hx hb hr hP hS hlocks dX0_narrow_53
        · have hf := (if_neg c20).symm.trans hf
          refine lv_aload_n hx hb dX0_narrow_42 rfl (lv_at hl 0 rfl) ?_
          obtain ⟨r21, S23, h22, hf⟩ := ob2_some hf
          refine kVi (As := []) (rest := []) ⟨hx, hb, hml, hown, hts⟩ (okX0_narrowOnce l D cy ad A hD  S r21 S23 h22) (cwV 0 hts gX0_narrow_X0_narrowOnce rfl rfl rfl (by decide +kernel) ⟨Nat.le_of_ble_eq_true rfl, Nat.le_of_ble_eq_true rfl⟩) hK hP hS (va_recv hK.1 hP (ci := 0) (q := (RX0, TX0, 9)) rfl (atX7 cy ad S)) rfl hl.1 rfl (Nat.le_of_ble_eq_true rfl) dX0_narrow_43 (fun H locs hP hS => ?_)
          refine lv_istore_n (lv' := [(2, .int (bi r21)), (0, .ref (ad 7)), (1, .int 129), (3, .int x3)]) hx hb dX0_narrow_46 rfl hl (by decide) rfl (fun ls hl => ?_)
          refine lv_iinc (v := (x3 + 1)) (lv' := [(3, .int (x3 + 1)), (2, .int (bi r21)), (0, .ref (ad 7)), (1, .int 129)]) hx hb dX0_narrow_47 hl (k := 3) rfl rfl (by decide) rfl (fun ls hl => ?_)
          refine lv_goto (tgt := 33) hx hb dX0_narrow_50 (by decide) ?_
          exact ih33 (r21) ((x3 + 1)) S23 H locs ls hP hS (lv_sub hl [2, 3, 1, 0] rfl) hf
  have K2 : ∀ (n : Nat), ∀ (x1 : Int32) (S : XS) (H : Heap) (locs : List Loc) (ls : Array Slot), va_P D vwCl (wX cy ad S) H → va_S A s.heap H locs → lv_has ls 4 [(0, .ref (ad 7)), (1, .int x1)] → lp (fun k q => bX0_narrow_2  k q.1 q.2) n (x1, S) = some S' → W p l e (headSpec wsX0_narrow { frames := 4, cells := 0, slots := 0, locals := 85 }).room s m args below meth c H locs 0 0 (MQ below (QcV D A (wX cy ad S')) args s 0 0 A) (F0 m 2 ls []) := by
    intro  n
    induction n with
    | zero =>
      intro x1 S H locs ls hP hS hl hf
      cases hf
    | succ n ih2 =>
      intro x1 S H locs ls hP hS hl hf
      have hf : bX0_narrow_2  (lp (fun k q => bX0_narrow_2  k q.1 q.2) n) x1 S = some S' := hf
      generalize lp (fun k q => bX0_narrow_2  k q.1 q.2) n = k2 at hf ih2
      unfold bX0_narrow_2 at hf
      refine lv_iload_n hx hb dX0_narrow_2 rfl (lv_at hl 1 rfl) ?_
      refine lv_bipush (v := 16) hx hb dX0_narrow_3 (by decide) ?_
      refine lv_icmp_ge (tgt := 25) hx hb dX0_narrow_5 (by decide) (fun c24 => ?_) (fun c24 => ?_)
      · have hf := (if_pos c24).symm.trans hf
        refine lv_sipush (v := 129) hx hb dX0_narrow_25 (by decide) ?_
        refine lv_istore_n (lv' := [(1, .int 129), (0, .ref (ad 7))]) hx hb dX0_narrow_28 rfl hl (by decide) rfl (fun ls hl => ?_)
        refine lv_iconst (v := 1) hx hb dX0_narrow_29 (by decide) ?_
        refine lv_istore_n (lv' := [(2, .int 1), (1, .int 129), (0, .ref (ad 7))]) hx hb dX0_narrow_30 rfl hl (by decide) rfl (fun ls hl => ?_)
        refine lv_iconst (v := 0) hx hb dX0_narrow_31 (by decide) ?_
        refine lv_istore_n (lv' := [(3, .int 0), (2, .int 1), (1, .int 129), (0, .ref (ad 7))]) hx hb dX0_narrow_32 rfl hl (by decide) rfl (fun ls hl => ?_)
        exact K33  FU (true) (0) S H locs ls hP hS (lv_sub hl [3, 2, 1, 0] rfl) hf
      · have hf := (if_neg c24).symm.trans hf
        refine lv_aload_n hx hb dX0_narrow_8 rfl (lv_at hl 0 rfl) ?_
        refine gfX0_3 hx hb hts (fun _ h => List.mem_cons_of_mem _ (List.mem_append_right _ h)) hown hK hP (hts (Cond.fieldLink RX0 22 "WhoSpeaks$Chain" "narrowed" "[I") (List.mem_of_getElem? (i := 1) rfl)) dX0_narrow_9 ?_
        refine lv_iload_n hx hb dX0_narrow_12 rfl (lv_at hl 1 rfl) ?_
        refine lv_aload_n hx hb dX0_narrow_13 rfl (lv_at hl 0 rfl) ?_
        refine lv_iload_n hx hb dX0_narrow_14 rfl (lv_at hl 1 rfl) ?_
        obtain ⟨r25, h26, hf⟩ := ob1_some hf
        refine kVi (As := [.int x1]) (rest := [.int x1, .ref (ad 11)]) ⟨hx, hb, hml, hown, hts⟩ (okX0_ownSet l D cy ad A hD x1 S r25 h26) (cwV 1 hts gX0_narrow_X0_ownSet rfl rfl rfl (by decide +kernel) ⟨Nat.le_of_ble_eq_true rfl, Nat.le_of_ble_eq_true rfl⟩) hK hP hS (va_recv hK.1 hP (ci := 0) (q := (RX0, TX0, 9)) rfl (atX7 cy ad S)) rfl hl.1 rfl (Nat.le_of_ble_eq_true rfl) dX0_narrow_15 (fun H locs hP hS => ?_)
        obtain ⟨c28, hf⟩ := ck_some hf
        refine asX11 (v := r25) hx hb hK hP hD hS c28 dX0_narrow_18 (fun S27 eS27 H locs hP hS => ?_)
        have hf := bnd_of eS27 hf
        refine lv_iinc (v := (x1 + 1)) (lv' := [(1, .int (x1 + 1)), (0, .ref (ad 7))]) hx hb dX0_narrow_19 hl (k := 1) rfl rfl (by decide) rfl (fun ls hl => ?_)
        refine lv_goto (tgt := 2) hx hb dX0_narrow_22 (by decide) ?_
        exact ih2 ((x1 + 1)) S27 H locs ls hP hS (lv_sub hl [1, 0] rfl) hf
  unfold fX0_narrow at hf
  suffices hG : ∀ (H : Heap) (locs : List Loc), va_P D vwCl (wX cy ad S) H → va_S A s.heap H locs → W p l e (headSpec wsX0_narrow { frames := 4, cells := 0, slots := 0, locals := 85 }).room s m args below meth c H locs 0 0 (MQ below (QcV D A (wX cy ad S')) args s 0 0 A) (F0 m 0 ls []) by exact hG s.heap [] hP va_S.rf
  clear hP hS
  intro H locs hP hS
  refine lv_iconst (v := 0) hx hb dX0_narrow_0 (by decide) ?_
  refine lv_istore_n (lv' := [(1, .int 0), (0, .ref (ad 7))]) hx hb dX0_narrow_1 rfl hl (by decide) rfl (fun ls hl => ?_)
  exact K2  FU (0) S H locs ls hP hS (lv_sub hl [1, 0] rfl) hf

def fX0_narrowedSet (p0 : Int32) (S : XS) : Option Int32 := (if (bi (fX0_holds p0 S)) = 0 then (some 0) else (ck p0 16 (some (xa S 11 p0.toNatClampNeg))))
set_option maxHeartbeats 4000000 in
set_option maxRecDepth 100000 in
theorem okX0_narrowedSet (l : Launch) (D : va_G) (cy : Nat → ClassId) (ad : Nat → Nat) (A : Nat → Prop) (hD : ∀ S, va_D A (wX cy ad S)) (p0 : Int32) (S : XS) (r : Int32) (hf : fX0_narrowedSet p0 S = some r) : MI l yX0_narrowedSet wsX0_narrowedSet { frames := 2, cells := 0, slots := 0, locals := 42 } D cy A (wX cy ad S) [.ref (ad 7), .int p0] r (wX cy ad S) := by
  refine Met.ofW (cc := cX0_narrowedSet) (maxL := 2) (ret := (some .int)) (by decide) rfl ?_
  intro p e s m args below meth c s₁ B hml hv
  obtain ⟨ha, hP, hK⟩ := hv
  have hx := B.exec
  have hb := B.bytes
  have hr := B.returns
  have hts := atoms_spec (ws := wsX0_narrowedSet) B.pre
  have hown : s.vm.findClass RX0 = some m.cls := findClass_of_methodNamed B.named
  have hlocks := B.notSynchronized
  have hS : va_S A s.heap s.heap [] := va_S.rf
  obtain ⟨ls, hl, he0⟩ := ent (m := m) ha (n := 2) (Nat.le_of_ble_eq_true rfl)
  refine W.eq he0 ?_
  have hl : lv_has ls 2 [(0, .ref (ad 7)), (1, .int p0)] := hl
  unfold fX0_narrowedSet at hf
  suffices hG : ∀ (H : Heap) (locs : List Loc), va_P D vwCl (wX cy ad S) H → va_S A s.heap H locs → W p l e (headSpec wsX0_narrowedSet { frames := 2, cells := 0, slots := 0, locals := 42 }).room s m args below meth c H locs 0 0 (MQ below (QcI D A r (wX cy ad S)) args s 0 0 A) (F0 m 0 ls []) by exact hG s.heap [] hP va_S.rf
  clear hP hS
  intro H locs hP hS
  refine lv_aload_n hx hb dX0_narrowedSet_0 rfl (lv_at hl 0 rfl) ?_
  refine lv_iload_n hx hb dX0_narrowedSet_1 rfl (lv_at hl 1 rfl) ?_
  refine kVi (As := [.int p0]) (rest := []) ⟨hx, hb, hml, hown, hts⟩ (okX0_holds l D cy ad A hD p0 S _ rfl) (cwV 1 hts gX0_narrowedSet_X0_holds rfl rfl rfl (by decide +kernel) ⟨Nat.le_of_ble_eq_true rfl, Nat.le_of_ble_eq_true rfl⟩) hK hP hS (va_recv hK.1 hP (ci := 0) (q := (RX0, TX0, 9)) rfl (atX7 cy ad S)) rfl hl.1 rfl (Nat.le_of_ble_eq_true rfl) dX0_narrowedSet_2 (fun H locs hP hS => ?_)
  refine lv_if_eq (tgt := 17) hx hb dX0_narrowedSet_5 (by decide) (fun c4 => ?_) (fun c4 => ?_)
  · have hf := (if_pos c4).symm.trans hf
    refine lv_iconst (v := 0) hx hb dX0_narrowedSet_17 (by decide) ?_
    have he := Option.some.inj hf
    exact rI hx hb hr hP hS he hlocks dX0_narrowedSet_18
  · have hf := (if_neg c4).symm.trans hf
    refine lv_aload_n hx hb dX0_narrowedSet_8 rfl (lv_at hl 0 rfl) ?_
    refine gfX0_3 hx hb hts (fun _ h => List.mem_cons_of_mem _ (List.mem_append_right _ h)) hown hK hP (hts (Cond.fieldLink RX0 22 "WhoSpeaks$Chain" "narrowed" "[I") (List.mem_of_getElem? (i := 1) rfl)) dX0_narrowedSet_9 ?_
    refine lv_iload_n hx hb dX0_narrowedSet_12 rfl (lv_at hl 1 rfl) ?_
    obtain ⟨c5, hf⟩ := ck_some hf
    refine alX11 hx hb hK hP c5 dX0_narrowedSet_13 ?_
    refine lv_goto (tgt := 18) hx hb dX0_narrowedSet_14 (by decide) ?_
    have he := Option.some.inj hf
    exact rI hx hb hr hP hS he hlocks dX0_narrowedSet_18

def fX5_set (p0 : Int32) (p1 : Int32) (S : XS) : Option (Int32 × XS) := (if (bi (fX3_holds p0 S)) = 0 then (some ((-1), S)) else (if p1 < 0 then (some ((-2), S)) else (if p1 ≤ 2 then (ob1 (fX3_paragraphAt p0 S) (fun r11 => (ob1 (fX1_speaks r11 S) (fun r13 => (if (bi r13) = 0 then (some ((-9), S)) else (ob1 (fX5_fillChain  S) (fun S17 => (if p1 = 0 then (ob1 (fX0_ownSet p0 S17) (fun r29 => (some (r29, S17)))) else (if p1 = 1 then (ob1 (fX0_narrow  S17) (fun S26 => (ob1 (fX0_narrowedSet p0 S26) (fun r27 => (some (r27, S26)))))) else (ob2 (fX0_countWays  S17) (fun r20 S22 => (ob1 (fX0_sureSet p0 S22) (fun r23 => (some (r23, S22))))))))))))))) else (some ((-2), S)))))
set_option maxHeartbeats 4000000 in
set_option maxRecDepth 100000 in
theorem okX5_set (l : Launch) (D : va_G) (cy : Nat → ClassId) (ad : Nat → Nat) (A : Nat → Prop) (hD : ∀ S, va_D A (wX cy ad S)) (p0 : Int32) (p1 : Int32) (S : XS) (r : Int32) (S' : XS) (hf : fX5_set p0 p1 S = some (r, S')) : MI l yX5_set wsX5_set { frames := 6, cells := 0, slots := 0, locals := 146 } D cy A (wX cy ad S) [.ref (ad 0), .int p0, .int p1] r (wX cy ad S') := by
  refine Met.ofW (cc := cX5_set) (maxL := 3) (ret := (some .int)) (by decide) rfl ?_
  intro p e s m args below meth c s₁ B hml hv
  obtain ⟨ha, hP, hK⟩ := hv
  have hx := B.exec
  have hb := B.bytes
  have hr := B.returns
  have hts := atoms_spec (ws := wsX5_set) B.pre
  have hown : s.vm.findClass RX5 = some m.cls := findClass_of_methodNamed B.named
  have hlocks := B.notSynchronized
  have hS : va_S A s.heap s.heap [] := va_S.rf
  obtain ⟨ls, hl, he0⟩ := ent (m := m) ha (n := 3) (Nat.le_of_ble_eq_true rfl)
  refine W.eq he0 ?_
  have hl : lv_has ls 3 [(0, .ref (ad 0)), (1, .int p0), (2, .int p1)] := hl
  unfold fX5_set at hf
  suffices hG : ∀ (H : Heap) (locs : List Loc), va_P D vwCl (wX cy ad S) H → va_S A s.heap H locs → W p l e (headSpec wsX5_set { frames := 6, cells := 0, slots := 0, locals := 146 }).room s m args below meth c H locs 0 0 (MQ below (QcI D A r (wX cy ad S')) args s 0 0 A) (F0 m 0 ls []) by exact hG s.heap [] hP va_S.rf
  clear hP hS
  intro H locs hP hS
  refine lv_aload_n hx hb dX5_set_0 rfl (lv_at hl 0 rfl) ?_
  refine gfX5_2 hx hb hts (fun _ h => List.mem_cons_of_mem _ (List.mem_append_left _ (List.mem_append_left _ (List.mem_append_left _ (List.mem_append_left _ (List.mem_append_right _ h)))))) hown hK hP (hts (Cond.fieldLink RX5 26 "WhoSpeaks" "story" "LWhoSpeaks$Story;") (List.mem_of_getElem? (i := 1) rfl)) dX5_set_1 ?_
  refine lv_iload_n hx hb dX5_set_4 rfl (lv_at hl 1 rfl) ?_
  refine kVi (As := [.int p0]) (rest := []) ⟨hx, hb, hml, hown, hts⟩ (okX3_holds l D cy ad A hD p0 S _ rfl) (cwV 1 hts gX5_set_X3_holds rfl rfl rfl (by decide +kernel) ⟨Nat.le_of_ble_eq_true rfl, Nat.le_of_ble_eq_true rfl⟩) hK hP hS (va_recv hK.1 hP (ci := 3) (q := (RX3, TX3, 3)) rfl (atX5 cy ad S)) rfl hl.1 rfl (Nat.le_of_ble_eq_true rfl) dX5_set_5 (fun H locs hP hS => ?_)
  refine lv_if_ne (tgt := 13) hx hb dX5_set_8 (by decide) (fun c8 => ?_) (fun c8 => ?_)
  · have hf := (if_neg c8).symm.trans hf
    refine lv_iload_n hx hb dX5_set_13 rfl (lv_at hl 2 rfl) ?_
    refine lv_if_lt (tgt := 22) hx hb dX5_set_14 (by decide) (fun c9 => ?_) (fun c9 => ?_)
    · have hf := (if_pos c9).symm.trans hf
      refine lv_bipush (v := (-2)) hx hb dX5_set_22 (by decide) ?_
      obtain ⟨he, hS9⟩ := Prod.mk.inj (Option.some.inj hf)
      subst hS9
      exact rI hx hb hr hP hS he hlocks dX5_set_24
    · have hf := (if_neg c9).symm.trans hf
      refine lv_iload_n hx hb dX5_set_17 rfl (lv_at hl 2 rfl) ?_
      refine lv_iconst (v := 2) hx hb dX5_set_18 (by decide) ?_
      refine lv_icmp_le (tgt := 25) hx hb dX5_set_19 (by decide) (fun c10 => ?_) (fun c10 => ?_)
      · have hf := (if_pos c10).symm.trans hf
        refine lv_aload_n hx hb dX5_set_25 rfl (lv_at hl 0 rfl) ?_
        refine gfX5_2 hx hb hts (fun _ h => List.mem_cons_of_mem _ (List.mem_append_left _ (List.mem_append_left _ (List.mem_append_left _ (List.mem_append_left _ (List.mem_append_right _ h)))))) hown hK hP (hts (Cond.fieldLink RX5 26 "WhoSpeaks" "story" "LWhoSpeaks$Story;") (List.mem_of_getElem? (i := 1) rfl)) dX5_set_26 ?_
        refine lv_iload_n hx hb dX5_set_29 rfl (lv_at hl 1 rfl) ?_
        obtain ⟨r11, h12, hf⟩ := ob1_some hf
        refine kVr (As := [.int p0]) (rest := []) ⟨hx, hb, hml, hown, hts⟩ (okX3_paragraphAt l D cy ad A hD p0 S r11 h12) (cwV 1 hts gX5_set_X3_paragraphAt rfl rfl rfl (by decide +kernel) ⟨Nat.le_of_ble_eq_true rfl, Nat.le_of_ble_eq_true rfl⟩) hK hP hS (va_recv hK.1 hP (ci := 3) (q := (RX3, TX3, 3)) rfl (atX5 cy ad S)) rfl hl.1 rfl (Nat.le_of_ble_eq_true rfl) dX5_set_30 (fun H locs hP hS => ?_)
        obtain ⟨r13, h14, hf⟩ := ob1_some hf
        refine kVi (As := []) (rest := []) ⟨hx, hb, hml, hown, hts⟩ (okX1_speaks l D cy ad A hD r11 S r13 h14) (cwV 0 hts gX5_set_X1_speaks rfl rfl rfl (by decide +kernel) ⟨Nat.le_of_ble_eq_true rfl, Nat.le_of_ble_eq_true rfl⟩) hK hP hS (va_recv hK.1 hP (ci := 1) (q := (RX1, TX1, 14)) rfl (atP0 cy ad S r11 (ck_no h14).1)) rfl hl.1 rfl (Nat.le_of_ble_eq_true rfl) dX5_set_33 (fun H locs hP hS => ?_)
        refine lv_if_ne (tgt := 42) hx hb dX5_set_36 (by decide) (fun c15 => ?_) (fun c15 => ?_)
        · have hf := (if_neg c15).symm.trans hf
          refine lv_aload_n hx hb dX5_set_42 rfl (lv_at hl 0 rfl) ?_
          obtain ⟨S17, h16, hf⟩ := ob1_some hf
          refine kVv (As := []) (rest := []) ⟨hx, hb, hml, hown, hts⟩ (okX5_fillChain l D cy ad A hD  S S17 h16) (cwV 0 hts gX5_set_X5_fillChain rfl rfl rfl (by decide +kernel) ⟨Nat.le_of_ble_eq_true rfl, Nat.le_of_ble_eq_true rfl⟩) hK hP hS (va_recv hK.1 hP (ci := 5) (q := (RX5, TX5, 9)) rfl (atX0 cy ad S)) rfl hl.1 rfl (Nat.le_of_ble_eq_true rfl) dX5_set_43 (fun H locs hP hS => ?_)
          refine lv_iload_n hx hb dX5_set_46 rfl (lv_at hl 2 rfl) ?_
          refine lv_if_ne (tgt := 59) hx hb dX5_set_47 (by decide) (fun c18 => ?_) (fun c18 => ?_)
          · have hf := (if_neg c18).symm.trans hf
            refine lv_iload_n hx hb dX5_set_59 rfl (lv_at hl 2 rfl) ?_
            refine lv_iconst (v := 1) hx hb dX5_set_60 (by decide) ?_
            refine lv_icmp_ne (tgt := 80) hx hb dX5_set_61 (by decide) (fun c19 => ?_) (fun c19 => ?_)
            · have hf := (if_neg c19).symm.trans hf
              refine lv_aload_n hx hb dX5_set_80 rfl (lv_at hl 0 rfl) ?_
              refine gfX5_3 hx hb hts (fun _ h => List.mem_cons_of_mem _ (List.mem_append_left _ (List.mem_append_left _ (List.mem_append_left _ (List.mem_append_left _ (List.mem_append_right _ h)))))) hown hK hP (hts (Cond.fieldLink RX5 33 "WhoSpeaks" "chain" "LWhoSpeaks$Chain;") (List.mem_of_getElem? (i := 2) rfl)) dX5_set_81 ?_
              obtain ⟨r20, S22, h21, hf⟩ := ob2_some hf
              refine kVl (As := []) (rest := []) ⟨hx, hb, hml, hown, hts⟩ (okX0_countWays l D cy ad A hD  S17 r20 S22 h21) (cwV 0 hts gX5_set_X0_countWays rfl rfl rfl (by decide +kernel) ⟨Nat.le_of_ble_eq_true rfl, Nat.le_of_ble_eq_true rfl⟩) hK hP hS (va_recv hK.1 hP (ci := 0) (q := (RX0, TX0, 9)) rfl (atX7 cy ad S17)) rfl hl.1 rfl (Nat.le_of_ble_eq_true rfl) dX5_set_84 (fun H locs hP hS => ?_)
              refine lv_pop2_2 hx hb dX5_set_87 rfl ?_
              refine lv_aload_n hx hb dX5_set_88 rfl (lv_at hl 0 rfl) ?_
              refine gfX5_3 hx hb hts (fun _ h => List.mem_cons_of_mem _ (List.mem_append_left _ (List.mem_append_left _ (List.mem_append_left _ (List.mem_append_left _ (List.mem_append_right _ h)))))) hown hK hP (hts (Cond.fieldLink RX5 33 "WhoSpeaks" "chain" "LWhoSpeaks$Chain;") (List.mem_of_getElem? (i := 2) rfl)) dX5_set_89 ?_
              refine lv_iload_n hx hb dX5_set_92 rfl (lv_at hl 1 rfl) ?_
              obtain ⟨r23, h24, hf⟩ := ob1_some hf
              refine kVi (As := [.int p0]) (rest := []) ⟨hx, hb, hml, hown, hts⟩ (okX0_sureSet l D cy ad A hD p0 S22 r23 h24) (cwV 1 hts gX5_set_X0_sureSet rfl rfl rfl (by decide +kernel) ⟨Nat.le_of_ble_eq_true rfl, Nat.le_of_ble_eq_true rfl⟩) hK hP hS (va_recv hK.1 hP (ci := 0) (q := (RX0, TX0, 9)) rfl (atX7 cy ad S22)) rfl hl.1 rfl (Nat.le_of_ble_eq_true rfl) dX5_set_93 (fun H locs hP hS => ?_)
              obtain ⟨he, hS9⟩ := Prod.mk.inj (Option.some.inj hf)
              subst hS9
              exact rI hx hb hr hP hS he hlocks dX5_set_96
            · have hf := (if_pos c19).symm.trans hf
              refine lv_aload_n hx hb dX5_set_64 rfl (lv_at hl 0 rfl) ?_
              refine gfX5_3 hx hb hts (fun _ h => List.mem_cons_of_mem _ (List.mem_append_left _ (List.mem_append_left _ (List.mem_append_left _ (List.mem_append_left _ (List.mem_append_right _ h)))))) hown hK hP (hts (Cond.fieldLink RX5 33 "WhoSpeaks" "chain" "LWhoSpeaks$Chain;") (List.mem_of_getElem? (i := 2) rfl)) dX5_set_65 ?_
              obtain ⟨S26, h25, hf⟩ := ob1_some hf
              refine kVv (As := []) (rest := []) ⟨hx, hb, hml, hown, hts⟩ (okX0_narrow l D cy ad A hD  S17 S26 h25) (cwV 0 hts gX5_set_X0_narrow rfl rfl rfl (by decide +kernel) ⟨Nat.le_of_ble_eq_true rfl, Nat.le_of_ble_eq_true rfl⟩) hK hP hS (va_recv hK.1 hP (ci := 0) (q := (RX0, TX0, 9)) rfl (atX7 cy ad S17)) rfl hl.1 rfl (Nat.le_of_ble_eq_true rfl) dX5_set_68 (fun H locs hP hS => ?_)
              refine lv_aload_n hx hb dX5_set_71 rfl (lv_at hl 0 rfl) ?_
              refine gfX5_3 hx hb hts (fun _ h => List.mem_cons_of_mem _ (List.mem_append_left _ (List.mem_append_left _ (List.mem_append_left _ (List.mem_append_left _ (List.mem_append_right _ h)))))) hown hK hP (hts (Cond.fieldLink RX5 33 "WhoSpeaks" "chain" "LWhoSpeaks$Chain;") (List.mem_of_getElem? (i := 2) rfl)) dX5_set_72 ?_
              refine lv_iload_n hx hb dX5_set_75 rfl (lv_at hl 1 rfl) ?_
              obtain ⟨r27, h28, hf⟩ := ob1_some hf
              refine kVi (As := [.int p0]) (rest := []) ⟨hx, hb, hml, hown, hts⟩ (okX0_narrowedSet l D cy ad A hD p0 S26 r27 h28) (cwV 1 hts gX5_set_X0_narrowedSet rfl rfl rfl (by decide +kernel) ⟨Nat.le_of_ble_eq_true rfl, Nat.le_of_ble_eq_true rfl⟩) hK hP hS (va_recv hK.1 hP (ci := 0) (q := (RX0, TX0, 9)) rfl (atX7 cy ad S26)) rfl hl.1 rfl (Nat.le_of_ble_eq_true rfl) dX5_set_76 (fun H locs hP hS => ?_)
              obtain ⟨he, hS9⟩ := Prod.mk.inj (Option.some.inj hf)
              subst hS9
              exact rI hx hb hr hP hS he hlocks dX5_set_79
          · have hf := (if_pos c18).symm.trans hf
            refine lv_aload_n hx hb dX5_set_50 rfl (lv_at hl 0 rfl) ?_
            refine gfX5_3 hx hb hts (fun _ h => List.mem_cons_of_mem _ (List.mem_append_left _ (List.mem_append_left _ (List.mem_append_left _ (List.mem_append_left _ (List.mem_append_right _ h)))))) hown hK hP (hts (Cond.fieldLink RX5 33 "WhoSpeaks" "chain" "LWhoSpeaks$Chain;") (List.mem_of_getElem? (i := 2) rfl)) dX5_set_51 ?_
            refine lv_iload_n hx hb dX5_set_54 rfl (lv_at hl 1 rfl) ?_
            obtain ⟨r29, h30, hf⟩ := ob1_some hf
            refine kVi (As := [.int p0]) (rest := []) ⟨hx, hb, hml, hown, hts⟩ (okX0_ownSet l D cy ad A hD p0 S17 r29 h30) (cwV 1 hts gX5_set_X0_ownSet rfl rfl rfl (by decide +kernel) ⟨Nat.le_of_ble_eq_true rfl, Nat.le_of_ble_eq_true rfl⟩) hK hP hS (va_recv hK.1 hP (ci := 0) (q := (RX0, TX0, 9)) rfl (atX7 cy ad S17)) rfl hl.1 rfl (Nat.le_of_ble_eq_true rfl) dX5_set_55 (fun H locs hP hS => ?_)
            obtain ⟨he, hS9⟩ := Prod.mk.inj (Option.some.inj hf)
            subst hS9
            exact rI hx hb hr hP hS he hlocks dX5_set_58
        · have hf := (if_pos c15).symm.trans hf
          refine lv_bipush (v := (-9)) hx hb dX5_set_39 (by decide) ?_
          obtain ⟨he, hS9⟩ := Prod.mk.inj (Option.some.inj hf)
          subst hS9
          exact rI hx hb hr hP hS he hlocks dX5_set_41
      · have hf := (if_neg c10).symm.trans hf
        refine lv_bipush (v := (-2)) hx hb dX5_set_22 (by decide) ?_
        obtain ⟨he, hS9⟩ := Prod.mk.inj (Option.some.inj hf)
        subst hS9
        exact rI hx hb hr hP hS he hlocks dX5_set_24
  · have hf := (if_pos c8).symm.trans hf
    refine lv_iconst (v := (-1)) hx hb dX5_set_11 (by decide) ?_
    obtain ⟨he, hS9⟩ := Prod.mk.inj (Option.some.inj hf)
    subst hS9
    exact rI hx hb hr hP hS he hlocks dX5_set_12

def bX5_keepNarrowedSets_13  (k13 : Int32 × XS → Option XS) (x1 : Int32) (S : XS) : Option XS := (if 16 ≤ x1 then (some S) else (ob1 (fX0_narrowedSet x1 S) (fun r11 => (ck x1 16 (bnd (xaW S 16 x1.toNatClampNeg r11) (fun S13 => (k13 ((x1 + 1), S13))))))))
def fX5_keepNarrowedSets  (S : XS) : Option XS := (ob1 (fX5_fillChain  S) (fun S16 => (ob1 (fX0_narrow  S16) (fun S18 => (lp (fun k q => bX5_keepNarrowedSets_13  k q.1 q.2) FU (0, S18))))))
set_option maxHeartbeats 4000000 in
set_option maxRecDepth 100000 in
theorem okX5_keepNarrowedSets (l : Launch) (D : va_G) (cy : Nat → ClassId) (ad : Nat → Nat) (A : Nat → Prop) (hD : ∀ S, va_D A (wX cy ad S))  (S : XS) (S' : XS) (hf : fX5_keepNarrowedSets  S = some S') : MV l yX5_keepNarrowedSets wsX5_keepNarrowedSets { frames := 5, cells := 0, slots := 0, locals := 109 } D cy A (wX cy ad S) [.ref (ad 0)] (wX cy ad S') := by
  refine Met.ofW (cc := cX5_keepNarrowedSets) (maxL := 2) (ret := none) (by decide) rfl ?_
  intro p e s m args below meth c s₁ B hml hv
  obtain ⟨ha, hP, hK⟩ := hv
  have hx := B.exec
  have hb := B.bytes
  have hr := B.returns
  have hts := atoms_spec (ws := wsX5_keepNarrowedSets) B.pre
  have hown : s.vm.findClass RX5 = some m.cls := findClass_of_methodNamed B.named
  have hlocks := B.notSynchronized
  have hS : va_S A s.heap s.heap [] := va_S.rf
  obtain ⟨ls, hl, he0⟩ := ent (m := m) ha (n := 2) (Nat.le_of_ble_eq_true rfl)
  refine W.eq he0 ?_
  have hl : lv_has ls 2 [(0, .ref (ad 0))] := hl
  have K13 : ∀ (n : Nat), ∀ (x1 : Int32) (S : XS) (H : Heap) (locs : List Loc) (ls : Array Slot), va_P D vwCl (wX cy ad S) H → va_S A s.heap H locs → lv_has ls 2 [(0, .ref (ad 0)), (1, .int x1)] → lp (fun k q => bX5_keepNarrowedSets_13  k q.1 q.2) n (x1, S) = some S' → W p l e (headSpec wsX5_keepNarrowedSets { frames := 5, cells := 0, slots := 0, locals := 109 }).room s m args below meth c H locs 0 0 (MQ below (QcV D A (wX cy ad S')) args s 0 0 A) (F0 m 13 ls []) := by
    intro  n
    induction n with
    | zero =>
      intro x1 S H locs ls hP hS hl hf
      cases hf
    | succ n ih13 =>
      intro x1 S H locs ls hP hS hl hf
      have hf : bX5_keepNarrowedSets_13  (lp (fun k q => bX5_keepNarrowedSets_13  k q.1 q.2) n) x1 S = some S' := hf
      generalize lp (fun k q => bX5_keepNarrowedSets_13  k q.1 q.2) n = k13 at hf ih13
      unfold bX5_keepNarrowedSets_13 at hf
      refine lv_iload_n hx hb dX5_keepNarrowedSets_13 rfl (lv_at hl 1 rfl) ?_
      refine lv_bipush (v := 16) hx hb dX5_keepNarrowedSets_14 (by decide) ?_
      refine lv_icmp_ge (tgt := 39) hx hb dX5_keepNarrowedSets_16 (by decide) (fun c10 => ?_) (fun c10 => ?_)
      · have hf := (if_pos c10).symm.trans hf
        cases hf
        exact rV hx hb hr hP hS hlocks dX5_keepNarrowedSets_39
      · have hf := (if_neg c10).symm.trans hf
        refine lv_aload_n hx hb dX5_keepNarrowedSets_19 rfl (lv_at hl 0 rfl) ?_
        refine gfX5_4 hx hb hts (fun _ h => List.mem_cons_of_mem _ (List.mem_append_left _ (List.mem_append_left _ (List.mem_append_left _ (List.mem_append_left _ (List.mem_append_right _ h)))))) hown hK hP (hts (Cond.fieldLink RX5 37 "WhoSpeaks" "narrowedBefore" "[I") (List.mem_of_getElem? (i := 2) rfl)) dX5_keepNarrowedSets_20 ?_
        refine lv_iload_n hx hb dX5_keepNarrowedSets_23 rfl (lv_at hl 1 rfl) ?_
        refine lv_aload_n hx hb dX5_keepNarrowedSets_24 rfl (lv_at hl 0 rfl) ?_
        refine gfX5_3 hx hb hts (fun _ h => List.mem_cons_of_mem _ (List.mem_append_left _ (List.mem_append_left _ (List.mem_append_left _ (List.mem_append_left _ (List.mem_append_right _ h)))))) hown hK hP (hts (Cond.fieldLink RX5 33 "WhoSpeaks" "chain" "LWhoSpeaks$Chain;") (List.mem_of_getElem? (i := 1) rfl)) dX5_keepNarrowedSets_25 ?_
        refine lv_iload_n hx hb dX5_keepNarrowedSets_28 rfl (lv_at hl 1 rfl) ?_
        obtain ⟨r11, h12, hf⟩ := ob1_some hf
        refine kVi (As := [.int x1]) (rest := [.int x1, .ref (ad 16)]) ⟨hx, hb, hml, hown, hts⟩ (okX0_narrowedSet l D cy ad A hD x1 S r11 h12) (cwV 1 hts gX5_keepNarrowedSets_X0_narrowedSet rfl rfl rfl (by decide +kernel) ⟨Nat.le_of_ble_eq_true rfl, Nat.le_of_ble_eq_true rfl⟩) hK hP hS (va_recv hK.1 hP (ci := 0) (q := (RX0, TX0, 9)) rfl (atX7 cy ad S)) rfl hl.1 rfl (Nat.le_of_ble_eq_true rfl) dX5_keepNarrowedSets_29 (fun H locs hP hS => ?_)
        obtain ⟨c14, hf⟩ := ck_some hf
        refine asX16 (v := r11) hx hb hK hP hD hS c14 dX5_keepNarrowedSets_32 (fun S13 eS13 H locs hP hS => ?_)
        have hf := bnd_of eS13 hf
        refine lv_iinc (v := (x1 + 1)) (lv' := [(1, .int (x1 + 1)), (0, .ref (ad 0))]) hx hb dX5_keepNarrowedSets_33 hl (k := 1) rfl rfl (by decide) rfl (fun ls hl => ?_)
        refine lv_goto (tgt := 13) hx hb dX5_keepNarrowedSets_36 (by decide) ?_
        exact ih13 ((x1 + 1)) S13 H locs ls hP hS (lv_sub hl [1, 0] rfl) hf
  unfold fX5_keepNarrowedSets at hf
  suffices hG : ∀ (H : Heap) (locs : List Loc), va_P D vwCl (wX cy ad S) H → va_S A s.heap H locs → W p l e (headSpec wsX5_keepNarrowedSets { frames := 5, cells := 0, slots := 0, locals := 109 }).room s m args below meth c H locs 0 0 (MQ below (QcV D A (wX cy ad S')) args s 0 0 A) (F0 m 0 ls []) by exact hG s.heap [] hP va_S.rf
  clear hP hS
  intro H locs hP hS
  refine lv_aload_n hx hb dX5_keepNarrowedSets_0 rfl (lv_at hl 0 rfl) ?_
  obtain ⟨S16, h15, hf⟩ := ob1_some hf
  refine kVv (As := []) (rest := []) ⟨hx, hb, hml, hown, hts⟩ (okX5_fillChain l D cy ad A hD  S S16 h15) (cwV 0 hts gX5_keepNarrowedSets_X5_fillChain rfl rfl rfl (by decide +kernel) ⟨Nat.le_of_ble_eq_true rfl, Nat.le_of_ble_eq_true rfl⟩) hK hP hS (va_recv hK.1 hP (ci := 5) (q := (RX5, TX5, 9)) rfl (atX0 cy ad S)) rfl hl.1 rfl (Nat.le_of_ble_eq_true rfl) dX5_keepNarrowedSets_1 (fun H locs hP hS => ?_)
  refine lv_aload_n hx hb dX5_keepNarrowedSets_4 rfl (lv_at hl 0 rfl) ?_
  refine gfX5_3 hx hb hts (fun _ h => List.mem_cons_of_mem _ (List.mem_append_left _ (List.mem_append_left _ (List.mem_append_left _ (List.mem_append_left _ (List.mem_append_right _ h)))))) hown hK hP (hts (Cond.fieldLink RX5 33 "WhoSpeaks" "chain" "LWhoSpeaks$Chain;") (List.mem_of_getElem? (i := 1) rfl)) dX5_keepNarrowedSets_5 ?_
  obtain ⟨S18, h17, hf⟩ := ob1_some hf
  refine kVv (As := []) (rest := []) ⟨hx, hb, hml, hown, hts⟩ (okX0_narrow l D cy ad A hD  S16 S18 h17) (cwV 0 hts gX5_keepNarrowedSets_X0_narrow rfl rfl rfl (by decide +kernel) ⟨Nat.le_of_ble_eq_true rfl, Nat.le_of_ble_eq_true rfl⟩) hK hP hS (va_recv hK.1 hP (ci := 0) (q := (RX0, TX0, 9)) rfl (atX7 cy ad S16)) rfl hl.1 rfl (Nat.le_of_ble_eq_true rfl) dX5_keepNarrowedSets_8 (fun H locs hP hS => ?_)
  refine lv_iconst (v := 0) hx hb dX5_keepNarrowedSets_11 (by decide) ?_
  refine lv_istore_n (lv' := [(1, .int 0), (0, .ref (ad 0))]) hx hb dX5_keepNarrowedSets_12 rfl hl (by decide) rfl (fun ls hl => ?_)
  exact K13  FU (0) S18 H locs ls hP hS (lv_sub hl [1, 0] rfl) hf

def fX1_takeHint (i : Nat) (p0 : Int32) (S : XS) : Option XS := (if i < 17 then (bnd (xpW S i 5 p0) (fun S2 => (some S2))) else none)
set_option maxHeartbeats 4000000 in
set_option maxRecDepth 100000 in
theorem okX1_takeHint (l : Launch) (D : va_G) (cy : Nat → ClassId) (ad : Nat → Nat) (A : Nat → Prop) (hD : ∀ S, va_D A (wX cy ad S)) (i : Nat) (p0 : Int32) (S : XS) (S' : XS) (hf : fX1_takeHint i p0 S = some S') : MV l yX1_takeHint wsX1_takeHint { frames := 0, cells := 0, slots := 0, locals := 0 } D cy A (wX cy ad S) [.ref (ad (19 + 3 * i)), .int p0] (wX cy ad S') := by
  refine Met.ofW (cc := cX1_takeHint) (maxL := 2) (ret := none) (by decide) rfl ?_
  intro p e s m args below meth c s₁ B hml hv
  obtain ⟨ha, hP, hK⟩ := hv
  have hx := B.exec
  have hb := B.bytes
  have hr := B.returns
  have hts := atoms_spec (ws := wsX1_takeHint) B.pre
  have hown : s.vm.findClass RX1 = some m.cls := findClass_of_methodNamed B.named
  have hlocks := B.notSynchronized
  have hS : va_S A s.heap s.heap [] := va_S.rf
  obtain ⟨ls, hl, he0⟩ := ent (m := m) ha (n := 2) (Nat.le_of_ble_eq_true rfl)
  refine W.eq he0 ?_
  unfold fX1_takeHint at hf
  obtain ⟨hi, hf⟩ := ck_no hf
  have hl : lv_has ls 2 [(0, .ref (ad (19 + 3 * i))), (1, .int p0)] := hl
  skip
  suffices hG : ∀ (H : Heap) (locs : List Loc), va_P D vwCl (wX cy ad S) H → va_S A s.heap H locs → W p l e (headSpec wsX1_takeHint { frames := 0, cells := 0, slots := 0, locals := 0 }).room s m args below meth c H locs 0 0 (MQ below (QcV D A (wX cy ad S')) args s 0 0 A) (F0 m 0 ls []) by exact hG s.heap [] hP va_S.rf
  clear hP hS
  intro H locs hP hS
  refine lv_aload_n hx hb dX1_takeHint_0 rfl (lv_at hl 0 rfl) ?_
  refine lv_iload_n hx hb dX1_takeHint_1 rfl (lv_at hl 1 rfl) ?_
  refine pfX1_5 (v := p0) hi hx hb hts (fun _ h => List.mem_cons_of_mem _ (List.mem_append_right _ h)) hown hK hP hD hS (hts (Cond.fieldLink RX1 32 "WhoSpeaks$Paragraph" "hint" "I") (List.mem_of_getElem? (i := 1) rfl)) dX1_takeHint_2 (fun S2 eS2 H locs hP hS => ?_)
  have hf := bnd_of eS2 hf
  cases hf
  exact rV hx hb hr hP hS hlocks dX1_takeHint_5

def bX5_changedNarrowedSets_15  (k15 : Int32 × Int32 × XS → Option (Int32 × XS)) (x1 : Int32) (x2 : Int32) (S : XS) : Option (Int32 × XS) := (if 16 ≤ x2 then (some (x1, S)) else (ck x2 16 (ob1 (fX0_narrowedSet x2 S) (fun r12 => (if (xa S 16 x2.toNatClampNeg) = r12 then (k15 (x1, (x2 + 1), S)) else (k15 ((x1 + 1), (x2 + 1), S)))))))
def fX5_changedNarrowedSets  (S : XS) : Option (Int32 × XS) := (ob1 (fX5_fillChain  S) (fun S16 => (ob1 (fX0_narrow  S16) (fun S18 => (lp (fun k q => bX5_changedNarrowedSets_15  k q.1 q.2.1 q.2.2) FU (0, 0, S18))))))
set_option maxHeartbeats 4000000 in
set_option maxRecDepth 100000 in
theorem okX5_changedNarrowedSets (l : Launch) (D : va_G) (cy : Nat → ClassId) (ad : Nat → Nat) (A : Nat → Prop) (hD : ∀ S, va_D A (wX cy ad S))  (S : XS) (r : Int32) (S' : XS) (hf : fX5_changedNarrowedSets  S = some (r, S')) : MI l yX5_changedNarrowedSets wsX5_changedNarrowedSets { frames := 5, cells := 0, slots := 0, locals := 109 } D cy A (wX cy ad S) [.ref (ad 0)] r (wX cy ad S') := by
  refine Met.ofW (cc := cX5_changedNarrowedSets) (maxL := 3) (ret := (some .int)) (by decide) rfl ?_
  intro p e s m args below meth c s₁ B hml hv
  obtain ⟨ha, hP, hK⟩ := hv
  have hx := B.exec
  have hb := B.bytes
  have hr := B.returns
  have hts := atoms_spec (ws := wsX5_changedNarrowedSets) B.pre
  have hown : s.vm.findClass RX5 = some m.cls := findClass_of_methodNamed B.named
  have hlocks := B.notSynchronized
  have hS : va_S A s.heap s.heap [] := va_S.rf
  obtain ⟨ls, hl, he0⟩ := ent (m := m) ha (n := 3) (Nat.le_of_ble_eq_true rfl)
  refine W.eq he0 ?_
  have hl : lv_has ls 3 [(0, .ref (ad 0))] := hl
  have K15 : ∀ (n : Nat), ∀ (x1 : Int32) (x2 : Int32) (S : XS) (H : Heap) (locs : List Loc) (ls : Array Slot), va_P D vwCl (wX cy ad S) H → va_S A s.heap H locs → lv_has ls 3 [(0, .ref (ad 0)), (1, .int x1), (2, .int x2)] → lp (fun k q => bX5_changedNarrowedSets_15  k q.1 q.2.1 q.2.2) n (x1, x2, S) = some (r, S') → W p l e (headSpec wsX5_changedNarrowedSets { frames := 5, cells := 0, slots := 0, locals := 109 }).room s m args below meth c H locs 0 0 (MQ below (QcI D A r (wX cy ad S')) args s 0 0 A) (F0 m 15 ls []) := by
    intro  n
    induction n with
    | zero =>
      intro x1 x2 S H locs ls hP hS hl hf
      cases hf
    | succ n ih15 =>
      intro x1 x2 S H locs ls hP hS hl hf
      have hf : bX5_changedNarrowedSets_15  (lp (fun k q => bX5_changedNarrowedSets_15  k q.1 q.2.1 q.2.2) n) x1 x2 S = some (r, S') := hf
      generalize lp (fun k q => bX5_changedNarrowedSets_15  k q.1 q.2.1 q.2.2) n = k15 at hf ih15
      unfold bX5_changedNarrowedSets_15 at hf
      refine lv_iload_n hx hb dX5_changedNarrowedSets_15 rfl (lv_at hl 2 rfl) ?_
      refine lv_bipush (v := 16) hx hb dX5_changedNarrowedSets_16 (by decide) ?_
      refine lv_icmp_ge (tgt := 47) hx hb dX5_changedNarrowedSets_18 (by decide) (fun c10 => ?_) (fun c10 => ?_)
      · have hf := (if_pos c10).symm.trans hf
        refine lv_iload_n hx hb dX5_changedNarrowedSets_47 rfl (lv_at hl 1 rfl) ?_
        obtain ⟨he, hS9⟩ := Prod.mk.inj (Option.some.inj hf)
        subst hS9
        exact rI hx hb hr hP hS he hlocks dX5_changedNarrowedSets_48
      · have hf := (if_neg c10).symm.trans hf
        refine lv_aload_n hx hb dX5_changedNarrowedSets_21 rfl (lv_at hl 0 rfl) ?_
        refine gfX5_4 hx hb hts (fun _ h => List.mem_cons_of_mem _ (List.mem_append_left _ (List.mem_append_left _ (List.mem_append_left _ (List.mem_append_left _ (List.mem_append_right _ h)))))) hown hK hP (hts (Cond.fieldLink RX5 37 "WhoSpeaks" "narrowedBefore" "[I") (List.mem_of_getElem? (i := 2) rfl)) dX5_changedNarrowedSets_22 ?_
        refine lv_iload_n hx hb dX5_changedNarrowedSets_25 rfl (lv_at hl 2 rfl) ?_
        obtain ⟨c11, hf⟩ := ck_some hf
        refine alX16 hx hb hK hP c11 dX5_changedNarrowedSets_26 ?_
        refine lv_aload_n hx hb dX5_changedNarrowedSets_27 rfl (lv_at hl 0 rfl) ?_
        refine gfX5_3 hx hb hts (fun _ h => List.mem_cons_of_mem _ (List.mem_append_left _ (List.mem_append_left _ (List.mem_append_left _ (List.mem_append_left _ (List.mem_append_right _ h)))))) hown hK hP (hts (Cond.fieldLink RX5 33 "WhoSpeaks" "chain" "LWhoSpeaks$Chain;") (List.mem_of_getElem? (i := 1) rfl)) dX5_changedNarrowedSets_28 ?_
        refine lv_iload_n hx hb dX5_changedNarrowedSets_31 rfl (lv_at hl 2 rfl) ?_
        obtain ⟨r12, h13, hf⟩ := ob1_some hf
        refine kVi (As := [.int x2]) (rest := [.int (xa S 16 x2.toNatClampNeg)]) ⟨hx, hb, hml, hown, hts⟩ (okX0_narrowedSet l D cy ad A hD x2 S r12 h13) (cwV 1 hts gX5_changedNarrowedSets_X0_narrowedSet rfl rfl rfl (by decide +kernel) ⟨Nat.le_of_ble_eq_true rfl, Nat.le_of_ble_eq_true rfl⟩) hK hP hS (va_recv hK.1 hP (ci := 0) (q := (RX0, TX0, 9)) rfl (atX7 cy ad S)) rfl hl.1 rfl (Nat.le_of_ble_eq_true rfl) dX5_changedNarrowedSets_32 (fun H locs hP hS => ?_)
        refine lv_icmp_eq (tgt := 41) hx hb dX5_changedNarrowedSets_35 (by decide) (fun c14 => ?_) (fun c14 => ?_)
        · have hf := (if_pos c14).symm.trans hf
          refine lv_iinc (v := (x2 + 1)) (lv' := [(2, .int (x2 + 1)), (0, .ref (ad 0)), (1, .int x1)]) hx hb dX5_changedNarrowedSets_41 hl (k := 2) rfl rfl (by decide) rfl (fun ls hl => ?_)
          refine lv_goto (tgt := 15) hx hb dX5_changedNarrowedSets_44 (by decide) ?_
          exact ih15 (x1) ((x2 + 1)) S H locs ls hP hS (lv_sub hl [1, 2, 0] rfl) hf
        · have hf := (if_neg c14).symm.trans hf
          refine lv_iinc (v := (x1 + 1)) (lv' := [(1, .int (x1 + 1)), (0, .ref (ad 0)), (2, .int x2)]) hx hb dX5_changedNarrowedSets_38 hl (k := 1) rfl rfl (by decide) rfl (fun ls hl => ?_)
          refine lv_iinc (v := (x2 + 1)) (lv' := [(2, .int (x2 + 1)), (1, .int (x1 + 1)), (0, .ref (ad 0))]) hx hb dX5_changedNarrowedSets_41 hl (k := 2) rfl rfl (by decide) rfl (fun ls hl => ?_)
          refine lv_goto (tgt := 15) hx hb dX5_changedNarrowedSets_44 (by decide) ?_
          exact ih15 ((x1 + 1)) ((x2 + 1)) S H locs ls hP hS (lv_sub hl [2, 1, 0] rfl) hf
  unfold fX5_changedNarrowedSets at hf
  suffices hG : ∀ (H : Heap) (locs : List Loc), va_P D vwCl (wX cy ad S) H → va_S A s.heap H locs → W p l e (headSpec wsX5_changedNarrowedSets { frames := 5, cells := 0, slots := 0, locals := 109 }).room s m args below meth c H locs 0 0 (MQ below (QcI D A r (wX cy ad S')) args s 0 0 A) (F0 m 0 ls []) by exact hG s.heap [] hP va_S.rf
  clear hP hS
  intro H locs hP hS
  refine lv_aload_n hx hb dX5_changedNarrowedSets_0 rfl (lv_at hl 0 rfl) ?_
  obtain ⟨S16, h15, hf⟩ := ob1_some hf
  refine kVv (As := []) (rest := []) ⟨hx, hb, hml, hown, hts⟩ (okX5_fillChain l D cy ad A hD  S S16 h15) (cwV 0 hts gX5_changedNarrowedSets_X5_fillChain rfl rfl rfl (by decide +kernel) ⟨Nat.le_of_ble_eq_true rfl, Nat.le_of_ble_eq_true rfl⟩) hK hP hS (va_recv hK.1 hP (ci := 5) (q := (RX5, TX5, 9)) rfl (atX0 cy ad S)) rfl hl.1 rfl (Nat.le_of_ble_eq_true rfl) dX5_changedNarrowedSets_1 (fun H locs hP hS => ?_)
  refine lv_aload_n hx hb dX5_changedNarrowedSets_4 rfl (lv_at hl 0 rfl) ?_
  refine gfX5_3 hx hb hts (fun _ h => List.mem_cons_of_mem _ (List.mem_append_left _ (List.mem_append_left _ (List.mem_append_left _ (List.mem_append_left _ (List.mem_append_right _ h)))))) hown hK hP (hts (Cond.fieldLink RX5 33 "WhoSpeaks" "chain" "LWhoSpeaks$Chain;") (List.mem_of_getElem? (i := 1) rfl)) dX5_changedNarrowedSets_5 ?_
  obtain ⟨S18, h17, hf⟩ := ob1_some hf
  refine kVv (As := []) (rest := []) ⟨hx, hb, hml, hown, hts⟩ (okX0_narrow l D cy ad A hD  S16 S18 h17) (cwV 0 hts gX5_changedNarrowedSets_X0_narrow rfl rfl rfl (by decide +kernel) ⟨Nat.le_of_ble_eq_true rfl, Nat.le_of_ble_eq_true rfl⟩) hK hP hS (va_recv hK.1 hP (ci := 0) (q := (RX0, TX0, 9)) rfl (atX7 cy ad S16)) rfl hl.1 rfl (Nat.le_of_ble_eq_true rfl) dX5_changedNarrowedSets_8 (fun H locs hP hS => ?_)
  refine lv_iconst (v := 0) hx hb dX5_changedNarrowedSets_11 (by decide) ?_
  refine lv_istore_n (lv' := [(1, .int 0), (0, .ref (ad 0))]) hx hb dX5_changedNarrowedSets_12 rfl hl (by decide) rfl (fun ls hl => ?_)
  refine lv_iconst (v := 0) hx hb dX5_changedNarrowedSets_13 (by decide) ?_
  refine lv_istore_n (lv' := [(2, .int 0), (1, .int 0), (0, .ref (ad 0))]) hx hb dX5_changedNarrowedSets_14 rfl hl (by decide) rfl (fun ls hl => ?_)
  exact K15  FU (0) (0) S18 H locs ls hP hS (lv_sub hl [2, 1, 0] rfl) hf

def bX5_hint_34  (x1 : Int32) (x2 : Int32) (S : XS) : Option (Int32 × XS) := (ob1 (fX3_paragraphAt x1 S) (fun r10 => (ob1 (fX1_speaks r10 S) (fun r12 => (if (bi r12) = 0 then (some ((-3), S)) else (ob1 (fX5_keepNarrowedSets  S) (fun S16 => (ob1 (fX1_takeHint r10 x2 S16) (fun S18 => (ob2 (fX5_changedNarrowedSets  S18) (fun r19 S21 => (some (r19, S21)))))))))))))
def fX5_hint (p0 : Int32) (p1 : Int32) (S : XS) : Option (Int32 × XS) := (if (bi (fX3_holds p0 S)) = 0 then (some ((-1), S)) else (if p1 = (-9) then (bX5_hint_34  (p0) (p1) S) else (if p1 < 1 then (some ((-2), S)) else (if p1 ≤ 255 then (bX5_hint_34  (p0) (p1) S) else (some ((-2), S))))))
set_option maxHeartbeats 4000000 in
set_option maxRecDepth 100000 in
theorem okX5_hint (l : Launch) (D : va_G) (cy : Nat → ClassId) (ad : Nat → Nat) (A : Nat → Prop) (hD : ∀ S, va_D A (wX cy ad S)) (p0 : Int32) (p1 : Int32) (S : XS) (r : Int32) (S' : XS) (hf : fX5_hint p0 p1 S = some (r, S')) : MI l yX5_hint wsX5_hint { frames := 6, cells := 0, slots := 0, locals := 131 } D cy A (wX cy ad S) [.ref (ad 0), .int p0, .int p1] r (wX cy ad S') := by
  refine Met.ofW (cc := cX5_hint) (maxL := 4) (ret := (some .int)) (by decide) rfl ?_
  intro p e s m args below meth c s₁ B hml hv
  obtain ⟨ha, hP, hK⟩ := hv
  have hx := B.exec
  have hb := B.bytes
  have hr := B.returns
  have hts := atoms_spec (ws := wsX5_hint) B.pre
  have hown : s.vm.findClass RX5 = some m.cls := findClass_of_methodNamed B.named
  have hlocks := B.notSynchronized
  have hS : va_S A s.heap s.heap [] := va_S.rf
  obtain ⟨ls, hl, he0⟩ := ent (m := m) ha (n := 4) (Nat.le_of_ble_eq_true rfl)
  refine W.eq he0 ?_
  have hl : lv_has ls 4 [(0, .ref (ad 0)), (1, .int p0), (2, .int p1)] := hl
  have K34 : ∀ (x1 : Int32) (x2 : Int32) (S : XS) (H : Heap) (locs : List Loc) (ls : Array Slot), va_P D vwCl (wX cy ad S) H → va_S A s.heap H locs → lv_has ls 4 [(0, .ref (ad 0)), (1, .int x1), (2, .int x2)] → bX5_hint_34  x1 x2 S = some (r, S') → W p l e (headSpec wsX5_hint { frames := 6, cells := 0, slots := 0, locals := 131 }).room s m args below meth c H locs 0 0 (MQ below (QcI D A r (wX cy ad S')) args s 0 0 A) (F0 m 34 ls []) := by
    intro  x1 x2 S H locs ls hP hS hl hf
    unfold bX5_hint_34 at hf
    refine lv_aload_n hx hb dX5_hint_34 rfl (lv_at hl 0 rfl) ?_
    refine gfX5_2 hx hb hts (fun _ h => List.mem_cons_of_mem _ (List.mem_append_left _ (List.mem_append_left _ (List.mem_append_left _ (List.mem_append_left _ (List.mem_append_right _ h)))))) hown hK hP (hts (Cond.fieldLink RX5 26 "WhoSpeaks" "story" "LWhoSpeaks$Story;") (List.mem_of_getElem? (i := 1) rfl)) dX5_hint_35 ?_
    refine lv_iload_n hx hb dX5_hint_38 rfl (lv_at hl 1 rfl) ?_
    obtain ⟨r10, h11, hf⟩ := ob1_some hf
    refine kVr (As := [.int x1]) (rest := []) ⟨hx, hb, hml, hown, hts⟩ (okX3_paragraphAt l D cy ad A hD x1 S r10 h11) (cwV 1 hts gX5_hint_X3_paragraphAt rfl rfl rfl (by decide +kernel) ⟨Nat.le_of_ble_eq_true rfl, Nat.le_of_ble_eq_true rfl⟩) hK hP hS (va_recv hK.1 hP (ci := 3) (q := (RX3, TX3, 3)) rfl (atX5 cy ad S)) rfl hl.1 rfl (Nat.le_of_ble_eq_true rfl) dX5_hint_39 (fun H locs hP hS => ?_)
    refine lv_astore_n (lv' := [(3, .ref (ad (19 + 3 * r10))), (0, .ref (ad 0)), (1, .int x1), (2, .int x2)]) hx hb dX5_hint_42 rfl hl (by decide) rfl (fun ls hl => ?_)
    refine lv_aload_n hx hb dX5_hint_43 rfl (lv_at hl 0 rfl) ?_
    obtain ⟨r12, h13, hf⟩ := ob1_some hf
    refine kVi (As := []) (rest := []) ⟨hx, hb, hml, hown, hts⟩ (okX1_speaks l D cy ad A hD r10 S r12 h13) (cwV 0 hts gX5_hint_X1_speaks rfl rfl rfl (by decide +kernel) ⟨Nat.le_of_ble_eq_true rfl, Nat.le_of_ble_eq_true rfl⟩) hK hP hS (va_recv hK.1 hP (ci := 1) (q := (RX1, TX1, 14)) rfl (atP0 cy ad S r10 (ck_no h13).1)) rfl hl.1 rfl (Nat.le_of_ble_eq_true rfl) dX5_hint_44 (fun H locs hP hS => ?_)
    refine lv_if_ne (tgt := 53) hx hb dX5_hint_47 (by decide) (fun c14 => ?_) (fun c14 => ?_)
    · have hf := (if_neg c14).symm.trans hf
      refine lv_aload_n hx hb dX5_hint_53 rfl (lv_at hl 1 rfl) ?_
      obtain ⟨S16, h15, hf⟩ := ob1_some hf
      refine kVv (As := []) (rest := []) ⟨hx, hb, hml, hown, hts⟩ (okX5_keepNarrowedSets l D cy ad A hD  S S16 h15) (cwV 0 hts gX5_hint_X5_keepNarrowedSets rfl rfl rfl (by decide +kernel) ⟨Nat.le_of_ble_eq_true rfl, Nat.le_of_ble_eq_true rfl⟩) hK hP hS (va_recv hK.1 hP (ci := 5) (q := (RX5, TX5, 9)) rfl (atX0 cy ad S)) rfl hl.1 rfl (Nat.le_of_ble_eq_true rfl) dX5_hint_54 (fun H locs hP hS => ?_)
      refine lv_aload_n hx hb dX5_hint_57 rfl (lv_at hl 0 rfl) ?_
      refine lv_iload_n hx hb dX5_hint_58 rfl (lv_at hl 3 rfl) ?_
      obtain ⟨S18, h17, hf⟩ := ob1_some hf
      refine kVv (As := [.int x2]) (rest := []) ⟨hx, hb, hml, hown, hts⟩ (okX1_takeHint l D cy ad A hD r10 x2 S16 S18 h17) (cwV 1 hts gX5_hint_X1_takeHint rfl rfl rfl (by decide +kernel) ⟨Nat.le_of_ble_eq_true rfl, Nat.le_of_ble_eq_true rfl⟩) hK hP hS (va_recv hK.1 hP (ci := 1) (q := (RX1, TX1, 14)) rfl (atP0 cy ad S16 r10 (ck_no h17).1)) rfl hl.1 rfl (Nat.le_of_ble_eq_true rfl) dX5_hint_59 (fun H locs hP hS => ?_)
      refine lv_aload_n hx hb dX5_hint_62 rfl (lv_at hl 1 rfl) ?_
      obtain ⟨r19, S21, h20, hf⟩ := ob2_some hf
      refine kVi (As := []) (rest := []) ⟨hx, hb, hml, hown, hts⟩ (okX5_changedNarrowedSets l D cy ad A hD  S18 r19 S21 h20) (cwV 0 hts gX5_hint_X5_changedNarrowedSets rfl rfl rfl (by decide +kernel) ⟨Nat.le_of_ble_eq_true rfl, Nat.le_of_ble_eq_true rfl⟩) hK hP hS (va_recv hK.1 hP (ci := 5) (q := (RX5, TX5, 9)) rfl (atX0 cy ad S18)) rfl hl.1 rfl (Nat.le_of_ble_eq_true rfl) dX5_hint_63 (fun H locs hP hS => ?_)
      obtain ⟨he, hS9⟩ := Prod.mk.inj (Option.some.inj hf)
      subst hS9
      exact rI hx hb hr hP hS he hlocks dX5_hint_66
    · have hf := (if_pos c14).symm.trans hf
      refine lv_bipush (v := (-3)) hx hb dX5_hint_50 (by decide) ?_
      obtain ⟨he, hS9⟩ := Prod.mk.inj (Option.some.inj hf)
      subst hS9
      exact rI hx hb hr hP hS he hlocks dX5_hint_52
  unfold fX5_hint at hf
  suffices hG : ∀ (H : Heap) (locs : List Loc), va_P D vwCl (wX cy ad S) H → va_S A s.heap H locs → W p l e (headSpec wsX5_hint { frames := 6, cells := 0, slots := 0, locals := 131 }).room s m args below meth c H locs 0 0 (MQ below (QcI D A r (wX cy ad S')) args s 0 0 A) (F0 m 0 ls []) by exact hG s.heap [] hP va_S.rf
  clear hP hS
  intro H locs hP hS
  refine lv_aload_n hx hb dX5_hint_0 rfl (lv_at hl 0 rfl) ?_
  refine gfX5_2 hx hb hts (fun _ h => List.mem_cons_of_mem _ (List.mem_append_left _ (List.mem_append_left _ (List.mem_append_left _ (List.mem_append_left _ (List.mem_append_right _ h)))))) hown hK hP (hts (Cond.fieldLink RX5 26 "WhoSpeaks" "story" "LWhoSpeaks$Story;") (List.mem_of_getElem? (i := 1) rfl)) dX5_hint_1 ?_
  refine lv_iload_n hx hb dX5_hint_4 rfl (lv_at hl 1 rfl) ?_
  refine kVi (As := [.int p0]) (rest := []) ⟨hx, hb, hml, hown, hts⟩ (okX3_holds l D cy ad A hD p0 S _ rfl) (cwV 1 hts gX5_hint_X3_holds rfl rfl rfl (by decide +kernel) ⟨Nat.le_of_ble_eq_true rfl, Nat.le_of_ble_eq_true rfl⟩) hK hP hS (va_recv hK.1 hP (ci := 3) (q := (RX3, TX3, 3)) rfl (atX5 cy ad S)) rfl hl.1 rfl (Nat.le_of_ble_eq_true rfl) dX5_hint_5 (fun H locs hP hS => ?_)
  refine lv_if_ne (tgt := 13) hx hb dX5_hint_8 (by decide) (fun c23 => ?_) (fun c23 => ?_)
  · have hf := (if_neg c23).symm.trans hf
    refine lv_iload_n hx hb dX5_hint_13 rfl (lv_at hl 2 rfl) ?_
    refine lv_bipush (v := (-9)) hx hb dX5_hint_14 (by decide) ?_
    refine lv_icmp_eq (tgt := 34) hx hb dX5_hint_16 (by decide) (fun c24 => ?_) (fun c24 => ?_)
    · have hf := (if_pos c24).symm.trans hf
      exact K34  (p0) (p1) S H locs ls hP hS (lv_sub hl [0, 1, 2] rfl) hf
    · have hf := (if_neg c24).symm.trans hf
      refine lv_iload_n hx hb dX5_hint_19 rfl (lv_at hl 2 rfl) ?_
      refine lv_iconst (v := 1) hx hb dX5_hint_20 (by decide) ?_
      refine lv_icmp_lt (tgt := 31) hx hb dX5_hint_21 (by decide) (fun c25 => ?_) (fun c25 => ?_)
      · have hf := (if_pos c25).symm.trans hf
        refine lv_bipush (v := (-2)) hx hb dX5_hint_31 (by decide) ?_
        obtain ⟨he, hS9⟩ := Prod.mk.inj (Option.some.inj hf)
        subst hS9
        exact rI hx hb hr hP hS he hlocks dX5_hint_33
      · have hf := (if_neg c25).symm.trans hf
        refine lv_iload_n hx hb dX5_hint_24 rfl (lv_at hl 2 rfl) ?_
        refine lv_sipush (v := 255) hx hb dX5_hint_25 (by decide) ?_
        refine lv_icmp_le (tgt := 34) hx hb dX5_hint_28 (by decide) (fun c26 => ?_) (fun c26 => ?_)
        · have hf := (if_pos c26).symm.trans hf
          exact K34  (p0) (p1) S H locs ls hP hS (lv_sub hl [0, 1, 2] rfl) hf
        · have hf := (if_neg c26).symm.trans hf
          refine lv_bipush (v := (-2)) hx hb dX5_hint_31 (by decide) ?_
          obtain ⟨he, hS9⟩ := Prod.mk.inj (Option.some.inj hf)
          subst hS9
          exact rI hx hb hr hP hS he hlocks dX5_hint_33
  · have hf := (if_pos c23).symm.trans hf
    refine lv_iconst (v := (-1)) hx hb dX5_hint_11 (by decide) ?_
    obtain ⟨he, hS9⟩ := Prod.mk.inj (Option.some.inj hf)
    subst hS9
    exact rI hx hb hr hP hS he hlocks dX5_hint_12

def fX5_link (p0 : Int32) (S : XS) : Option Int32 := (if (bi (fX3_holds p0 S)) = 0 then (some (-1)) else (ob1 (fX3_linkAhead p0 (xi S 1) S) (fun r4 => (some r4))))
set_option maxHeartbeats 4000000 in
set_option maxRecDepth 100000 in
theorem okX5_link (l : Launch) (D : va_G) (cy : Nat → ClassId) (ad : Nat → Nat) (A : Nat → Prop) (hD : ∀ S, va_D A (wX cy ad S)) (p0 : Int32) (S : XS) (r : Int32) (hf : fX5_link p0 S = some r) : MI l yX5_link wsX5_link { frames := 4, cells := 0, slots := 0, locals := 85 } D cy A (wX cy ad S) [.ref (ad 0), .int p0] r (wX cy ad S) := by
  refine Met.ofW (cc := cX5_link) (maxL := 2) (ret := (some .int)) (by decide) rfl ?_
  intro p e s m args below meth c s₁ B hml hv
  obtain ⟨ha, hP, hK⟩ := hv
  have hx := B.exec
  have hb := B.bytes
  have hr := B.returns
  have hts := atoms_spec (ws := wsX5_link) B.pre
  have hown : s.vm.findClass RX5 = some m.cls := findClass_of_methodNamed B.named
  have hlocks := B.notSynchronized
  have hS : va_S A s.heap s.heap [] := va_S.rf
  obtain ⟨ls, hl, he0⟩ := ent (m := m) ha (n := 2) (Nat.le_of_ble_eq_true rfl)
  refine W.eq he0 ?_
  have hl : lv_has ls 2 [(0, .ref (ad 0)), (1, .int p0)] := hl
  unfold fX5_link at hf
  suffices hG : ∀ (H : Heap) (locs : List Loc), va_P D vwCl (wX cy ad S) H → va_S A s.heap H locs → W p l e (headSpec wsX5_link { frames := 4, cells := 0, slots := 0, locals := 85 }).room s m args below meth c H locs 0 0 (MQ below (QcI D A r (wX cy ad S)) args s 0 0 A) (F0 m 0 ls []) by exact hG s.heap [] hP va_S.rf
  clear hP hS
  intro H locs hP hS
  refine lv_aload_n hx hb dX5_link_0 rfl (lv_at hl 0 rfl) ?_
  refine gfX5_2 hx hb hts (fun _ h => List.mem_cons_of_mem _ (List.mem_append_left _ (List.mem_append_left _ (List.mem_append_right _ h)))) hown hK hP (hts (Cond.fieldLink RX5 26 "WhoSpeaks" "story" "LWhoSpeaks$Story;") (List.mem_of_getElem? (i := 1) rfl)) dX5_link_1 ?_
  refine lv_iload_n hx hb dX5_link_4 rfl (lv_at hl 1 rfl) ?_
  refine kVi (As := [.int p0]) (rest := []) ⟨hx, hb, hml, hown, hts⟩ (okX3_holds l D cy ad A hD p0 S _ rfl) (cwV 1 hts gX5_link_X3_holds rfl rfl rfl (by decide +kernel) ⟨Nat.le_of_ble_eq_true rfl, Nat.le_of_ble_eq_true rfl⟩) hK hP hS (va_recv hK.1 hP (ci := 3) (q := (RX3, TX3, 3)) rfl (atX5 cy ad S)) rfl hl.1 rfl (Nat.le_of_ble_eq_true rfl) dX5_link_5 (fun H locs hP hS => ?_)
  refine lv_if_eq (tgt := 26) hx hb dX5_link_8 (by decide) (fun c3 => ?_) (fun c3 => ?_)
  · have hf := (if_pos c3).symm.trans hf
    refine lv_iconst (v := (-1)) hx hb dX5_link_26 (by decide) ?_
    have he := Option.some.inj hf
    exact rI hx hb hr hP hS he hlocks dX5_link_27
  · have hf := (if_neg c3).symm.trans hf
    refine lv_aload_n hx hb dX5_link_11 rfl (lv_at hl 0 rfl) ?_
    refine gfX5_2 hx hb hts (fun _ h => List.mem_cons_of_mem _ (List.mem_append_left _ (List.mem_append_left _ (List.mem_append_right _ h)))) hown hK hP (hts (Cond.fieldLink RX5 26 "WhoSpeaks" "story" "LWhoSpeaks$Story;") (List.mem_of_getElem? (i := 1) rfl)) dX5_link_12 ?_
    refine lv_iload_n hx hb dX5_link_15 rfl (lv_at hl 1 rfl) ?_
    refine lv_aload_n hx hb dX5_link_16 rfl (lv_at hl 0 rfl) ?_
    refine gfX5_8 hx hb hts (fun _ h => List.mem_cons_of_mem _ (List.mem_append_left _ (List.mem_append_left _ (List.mem_append_right _ h)))) hown hK hP (hts (Cond.fieldLink RX5 51 "WhoSpeaks" "ruleSet" "I") (List.mem_of_getElem? (i := 2) rfl)) dX5_link_17 ?_
    obtain ⟨r4, h5, hf⟩ := ob1_some hf
    refine kVi (As := [.int p0, .int (xi S 1)]) (rest := []) ⟨hx, hb, hml, hown, hts⟩ (okX3_linkAhead l D cy ad A hD p0 (xi S 1) S r4 h5) (cwV 2 hts gX5_link_X3_linkAhead rfl rfl rfl (by decide +kernel) ⟨Nat.le_of_ble_eq_true rfl, Nat.le_of_ble_eq_true rfl⟩) hK hP hS (va_recv hK.1 hP (ci := 3) (q := (RX3, TX3, 3)) rfl (atX5 cy ad S)) rfl hl.1 rfl (Nat.le_of_ble_eq_true rfl) dX5_link_20 (fun H locs hP hS => ?_)
    refine lv_goto (tgt := 27) hx hb dX5_link_23 (by decide) ?_
    have he := Option.some.inj hf
    exact rI hx hb hr hP hS he hlocks dX5_link_27

def fX5_ways  (S : XS) : Option (Int64 × XS) := (ob1 (fX5_fillChain  S) (fun S2 => (ob2 (fX0_countWays  S2) (fun r3 S5 => (some (r3, S5))))))
set_option maxHeartbeats 4000000 in
set_option maxRecDepth 100000 in
theorem okX5_ways (l : Launch) (D : va_G) (cy : Nat → ClassId) (ad : Nat → Nat) (A : Nat → Prop) (hD : ∀ S, va_D A (wX cy ad S))  (S : XS) (r : Int64) (S' : XS) (hf : fX5_ways  S = some (r, S')) : ML l yX5_ways wsX5_ways { frames := 6, cells := 0, slots := 0, locals := 146 } D cy A (wX cy ad S) [.ref (ad 0)] r (wX cy ad S') := by
  refine Met.ofW (cc := cX5_ways) (maxL := 1) (ret := (some .long)) (by decide) rfl ?_
  intro p e s m args below meth c s₁ B hml hv
  obtain ⟨ha, hP, hK⟩ := hv
  have hx := B.exec
  have hb := B.bytes
  have hr := B.returns
  have hts := atoms_spec (ws := wsX5_ways) B.pre
  have hown : s.vm.findClass RX5 = some m.cls := findClass_of_methodNamed B.named
  have hlocks := B.notSynchronized
  have hS : va_S A s.heap s.heap [] := va_S.rf
  obtain ⟨ls, hl, he0⟩ := ent (m := m) ha (n := 1) (Nat.le_of_ble_eq_true rfl)
  refine W.eq he0 ?_
  have hl : lv_has ls 1 [(0, .ref (ad 0))] := hl
  unfold fX5_ways at hf
  suffices hG : ∀ (H : Heap) (locs : List Loc), va_P D vwCl (wX cy ad S) H → va_S A s.heap H locs → W p l e (headSpec wsX5_ways { frames := 6, cells := 0, slots := 0, locals := 146 }).room s m args below meth c H locs 0 0 (MQ below (QcL D A r (wX cy ad S')) args s 0 0 A) (F0 m 0 ls []) by exact hG s.heap [] hP va_S.rf
  clear hP hS
  intro H locs hP hS
  refine lv_aload_n hx hb dX5_ways_0 rfl (lv_at hl 0 rfl) ?_
  obtain ⟨S2, h1, hf⟩ := ob1_some hf
  refine kVv (As := []) (rest := []) ⟨hx, hb, hml, hown, hts⟩ (okX5_fillChain l D cy ad A hD  S S2 h1) (cwV 0 hts gX5_ways_X5_fillChain rfl rfl rfl (by decide +kernel) ⟨Nat.le_of_ble_eq_true rfl, Nat.le_of_ble_eq_true rfl⟩) hK hP hS (va_recv hK.1 hP (ci := 5) (q := (RX5, TX5, 9)) rfl (atX0 cy ad S)) rfl hl.1 rfl (Nat.le_of_ble_eq_true rfl) dX5_ways_1 (fun H locs hP hS => ?_)
  refine lv_aload_n hx hb dX5_ways_4 rfl (lv_at hl 0 rfl) ?_
  refine gfX5_3 hx hb hts (fun _ h => List.mem_cons_of_mem _ (List.mem_append_left _ (List.mem_append_left _ (List.mem_append_left _ (List.mem_append_left _ (List.mem_append_right _ h)))))) hown hK hP (hts (Cond.fieldLink RX5 33 "WhoSpeaks" "chain" "LWhoSpeaks$Chain;") (List.mem_of_getElem? (i := 1) rfl)) dX5_ways_5 ?_
  obtain ⟨r3, S5, h4, hf⟩ := ob2_some hf
  refine kVl (As := []) (rest := []) ⟨hx, hb, hml, hown, hts⟩ (okX0_countWays l D cy ad A hD  S2 r3 S5 h4) (cwV 0 hts gX5_ways_X0_countWays rfl rfl rfl (by decide +kernel) ⟨Nat.le_of_ble_eq_true rfl, Nat.le_of_ble_eq_true rfl⟩) hK hP hS (va_recv hK.1 hP (ci := 0) (q := (RX0, TX0, 9)) rfl (atX7 cy ad S2)) rfl hl.1 rfl (Nat.le_of_ble_eq_true rfl) dX5_ways_8 (fun H locs hP hS => ?_)
  obtain ⟨he, hS9⟩ := Prod.mk.inj (Option.some.inj hf)
  subst hS9
  exact rL hx hb hr hP hS he hlocks dX5_ways_11

def fX5_would (p0 : Int32) (p1 : Int32) (S : XS) : Option (Int64 × XS) := (if (bi (fX3_holds p0 S)) = 0 then (some ((-1), S)) else (if (bi (fX2_isThere p1 S)) = 0 then (some ((-1), S)) else (ob1 (fX5_fillChain  S) (fun S8 => (ob2 (fX0_countWays  S8) (fun r9 S11 => (ob1 (fX0_waysThrough p0 p1 S11) (fun r12 => (some (r12, S11))))))))))
set_option maxHeartbeats 4000000 in
set_option maxRecDepth 100000 in
theorem okX5_would (l : Launch) (D : va_G) (cy : Nat → ClassId) (ad : Nat → Nat) (A : Nat → Prop) (hD : ∀ S, va_D A (wX cy ad S)) (p0 : Int32) (p1 : Int32) (S : XS) (r : Int64) (S' : XS) (hf : fX5_would p0 p1 S = some (r, S')) : ML l yX5_would wsX5_would { frames := 6, cells := 0, slots := 0, locals := 146 } D cy A (wX cy ad S) [.ref (ad 0), .int p0, .int p1] r (wX cy ad S') := by
  refine Met.ofW (cc := cX5_would) (maxL := 3) (ret := (some .long)) (by decide) rfl ?_
  intro p e s m args below meth c s₁ B hml hv
  obtain ⟨ha, hP, hK⟩ := hv
  have hx := B.exec
  have hb := B.bytes
  have hr := B.returns
  have hts := atoms_spec (ws := wsX5_would) B.pre
  have hown : s.vm.findClass RX5 = some m.cls := findClass_of_methodNamed B.named
  have hlocks := B.notSynchronized
  have hS : va_S A s.heap s.heap [] := va_S.rf
  obtain ⟨ls, hl, he0⟩ := ent (m := m) ha (n := 3) (Nat.le_of_ble_eq_true rfl)
  refine W.eq he0 ?_
  have hl : lv_has ls 3 [(0, .ref (ad 0)), (1, .int p0), (2, .int p1)] := hl
  unfold fX5_would at hf
  suffices hG : ∀ (H : Heap) (locs : List Loc), va_P D vwCl (wX cy ad S) H → va_S A s.heap H locs → W p l e (headSpec wsX5_would { frames := 6, cells := 0, slots := 0, locals := 146 }).room s m args below meth c H locs 0 0 (MQ below (QcL D A r (wX cy ad S')) args s 0 0 A) (F0 m 0 ls []) by exact hG s.heap [] hP va_S.rf
  clear hP hS
  intro H locs hP hS
  refine lv_aload_n hx hb dX5_would_0 rfl (lv_at hl 0 rfl) ?_
  refine gfX5_2 hx hb hts (fun _ h => List.mem_cons_of_mem _ (List.mem_append_left _ (List.mem_append_left _ (List.mem_append_left _ (List.mem_append_left _ (List.mem_append_right _ h)))))) hown hK hP (hts (Cond.fieldLink RX5 26 "WhoSpeaks" "story" "LWhoSpeaks$Story;") (List.mem_of_getElem? (i := 1) rfl)) dX5_would_1 ?_
  refine lv_iload_n hx hb dX5_would_4 rfl (lv_at hl 1 rfl) ?_
  refine kVi (As := [.int p0]) (rest := []) ⟨hx, hb, hml, hown, hts⟩ (okX3_holds l D cy ad A hD p0 S _ rfl) (cwV 1 hts gX5_would_X3_holds rfl rfl rfl (by decide +kernel) ⟨Nat.le_of_ble_eq_true rfl, Nat.le_of_ble_eq_true rfl⟩) hK hP hS (va_recv hK.1 hP (ci := 3) (q := (RX3, TX3, 3)) rfl (atX5 cy ad S)) rfl hl.1 rfl (Nat.le_of_ble_eq_true rfl) dX5_would_5 (fun H locs hP hS => ?_)
  refine lv_if_eq (tgt := 22) hx hb dX5_would_8 (by decide) (fun c4 => ?_) (fun c4 => ?_)
  · have hf := (if_pos c4).symm.trans hf
    refine lv_ldc2 hx hb hown (hts (Cond.constantLong RX5 176 (-1)) (List.mem_of_getElem? (i := 3) rfl)) dX5_would_22 ?_
    obtain ⟨he, hS9⟩ := Prod.mk.inj (Option.some.inj hf)
    subst hS9
    exact rL hx hb hr hP hS he hlocks dX5_would_25
  · have hf := (if_neg c4).symm.trans hf
    refine lv_aload_n hx hb dX5_would_11 rfl (lv_at hl 0 rfl) ?_
    refine gfX5_0 hx hb hts (fun _ h => List.mem_cons_of_mem _ (List.mem_append_left _ (List.mem_append_left _ (List.mem_append_left _ (List.mem_append_left _ (List.mem_append_right _ h)))))) hown hK hP (hts (Cond.fieldLink RX5 12 "WhoSpeaks" "people" "LWhoSpeaks$People;") (List.mem_of_getElem? (i := 2) rfl)) dX5_would_12 ?_
    refine lv_iload_n hx hb dX5_would_15 rfl (lv_at hl 2 rfl) ?_
    refine kVi (As := [.int p1]) (rest := []) ⟨hx, hb, hml, hown, hts⟩ (okX2_isThere l D cy ad A hD p1 S _ rfl) (cwV 1 hts gX5_would_X2_isThere rfl rfl rfl (by decide +kernel) ⟨Nat.le_of_ble_eq_true rfl, Nat.le_of_ble_eq_true rfl⟩) hK hP hS (va_recv hK.1 hP (ci := 2) (q := (RX2, TX2, 2)) rfl (atX1 cy ad S)) rfl hl.1 rfl (Nat.le_of_ble_eq_true rfl) dX5_would_16 (fun H locs hP hS => ?_)
    refine lv_if_ne (tgt := 26) hx hb dX5_would_19 (by decide) (fun c6 => ?_) (fun c6 => ?_)
    · have hf := (if_neg c6).symm.trans hf
      refine lv_aload_n hx hb dX5_would_26 rfl (lv_at hl 0 rfl) ?_
      obtain ⟨S8, h7, hf⟩ := ob1_some hf
      refine kVv (As := []) (rest := []) ⟨hx, hb, hml, hown, hts⟩ (okX5_fillChain l D cy ad A hD  S S8 h7) (cwV 0 hts gX5_would_X5_fillChain rfl rfl rfl (by decide +kernel) ⟨Nat.le_of_ble_eq_true rfl, Nat.le_of_ble_eq_true rfl⟩) hK hP hS (va_recv hK.1 hP (ci := 5) (q := (RX5, TX5, 9)) rfl (atX0 cy ad S)) rfl hl.1 rfl (Nat.le_of_ble_eq_true rfl) dX5_would_27 (fun H locs hP hS => ?_)
      refine lv_aload_n hx hb dX5_would_30 rfl (lv_at hl 0 rfl) ?_
      refine gfX5_3 hx hb hts (fun _ h => List.mem_cons_of_mem _ (List.mem_append_left _ (List.mem_append_left _ (List.mem_append_left _ (List.mem_append_left _ (List.mem_append_right _ h)))))) hown hK hP (hts (Cond.fieldLink RX5 33 "WhoSpeaks" "chain" "LWhoSpeaks$Chain;") (List.mem_of_getElem? (i := 4) rfl)) dX5_would_31 ?_
      obtain ⟨r9, S11, h10, hf⟩ := ob2_some hf
      refine kVl (As := []) (rest := []) ⟨hx, hb, hml, hown, hts⟩ (okX0_countWays l D cy ad A hD  S8 r9 S11 h10) (cwV 0 hts gX5_would_X0_countWays rfl rfl rfl (by decide +kernel) ⟨Nat.le_of_ble_eq_true rfl, Nat.le_of_ble_eq_true rfl⟩) hK hP hS (va_recv hK.1 hP (ci := 0) (q := (RX0, TX0, 9)) rfl (atX7 cy ad S8)) rfl hl.1 rfl (Nat.le_of_ble_eq_true rfl) dX5_would_34 (fun H locs hP hS => ?_)
      refine lv_pop2_2 hx hb dX5_would_37 rfl ?_
      refine lv_aload_n hx hb dX5_would_38 rfl (lv_at hl 0 rfl) ?_
      refine gfX5_3 hx hb hts (fun _ h => List.mem_cons_of_mem _ (List.mem_append_left _ (List.mem_append_left _ (List.mem_append_left _ (List.mem_append_left _ (List.mem_append_right _ h)))))) hown hK hP (hts (Cond.fieldLink RX5 33 "WhoSpeaks" "chain" "LWhoSpeaks$Chain;") (List.mem_of_getElem? (i := 4) rfl)) dX5_would_39 ?_
      refine lv_iload_n hx hb dX5_would_42 rfl (lv_at hl 1 rfl) ?_
      refine lv_iload_n hx hb dX5_would_43 rfl (lv_at hl 2 rfl) ?_
      obtain ⟨r12, h13, hf⟩ := ob1_some hf
      refine kVl (As := [.int p0, .int p1]) (rest := []) ⟨hx, hb, hml, hown, hts⟩ (okX0_waysThrough l D cy ad A hD p0 p1 S11 r12 h13) (cwV 2 hts gX5_would_X0_waysThrough rfl rfl rfl (by decide +kernel) ⟨Nat.le_of_ble_eq_true rfl, Nat.le_of_ble_eq_true rfl⟩) hK hP hS (va_recv hK.1 hP (ci := 0) (q := (RX0, TX0, 9)) rfl (atX7 cy ad S11)) rfl hl.1 rfl (Nat.le_of_ble_eq_true rfl) dX5_would_44 (fun H locs hP hS => ?_)
      obtain ⟨he, hS9⟩ := Prod.mk.inj (Option.some.inj hf)
      subst hS9
      exact rL hx hb hr hP hS he hlocks dX5_would_47
    · have hf := (if_pos c6).symm.trans hf
      refine lv_ldc2 hx hb hown (hts (Cond.constantLong RX5 176 (-1)) (List.mem_of_getElem? (i := 3) rfl)) dX5_would_22 ?_
      obtain ⟨he, hS9⟩ := Prod.mk.inj (Option.some.inj hf)
      subst hS9
      exact rL hx hb hr hP hS he hlocks dX5_would_25
