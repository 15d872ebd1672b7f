def fX1_noteDoer (i : Nat) (S : XS) : Option XS := (if i < 17 then (if (xp S i 9) = 0 then (ob1 (fX1_kindAt i 0 S) (fun r6 => (if r6 = 65 then (ob1 (fX1_kindAt i 1 S) (fun r9 => (if r9 = 111 then (ob1 (fX1_personAt i 0 S) (fun r12 => (bnd (xpW S i 13 (fX5_bitOf r12)) (fun S15 => (some S15))))) else (some S)))) else (some S)))) else (some S)) else none)
set_option maxHeartbeats 4000000 in
set_option maxRecDepth 100000 in
theorem okX1_noteDoer (l : Launch) (D : va_G) (cy : Nat → ClassId) (ad : Nat → Nat) (A : Nat → Prop) (hD : ∀ S, va_D A (wX cy ad S)) (i : Nat) (S : XS) (S' : XS) (hf : fX1_noteDoer i S = some S') : MV l yX1_noteDoer wsX1_noteDoer { frames := 2, cells := 0, slots := 0, locals := 42 } D cy A (wX cy ad S) [.ref (ad (19 + 3 * i))] (wX cy ad S') := by
  refine Met.ofW (cc := cX1_noteDoer) (maxL := 1) (ret := none) (by decide) rfl ?_
  intro p e s m args below meth c s₁ B hml hv
  obtain ⟨ha, hP, hK⟩ := hv
  have hx := B.exec
  have hb := B.bytes
  have hr := B.returns
  have hts := atoms_spec (ws := wsX1_noteDoer) B.pre
  have hown : s.vm.findClass RX1 = some m.cls := findClass_of_methodNamed B.named
  have hlocks := B.notSynchronized
  have hS : va_S A s.heap s.heap [] := va_S.rf
  obtain ⟨ls, hl, he0⟩ := ent (m := m) ha (n := 1) (Nat.le_of_ble_eq_true rfl)
  refine W.eq he0 ?_
  unfold fX1_noteDoer at hf
  obtain ⟨hi, hf⟩ := ck_no hf
  have hl : lv_has ls 1 [(0, .ref (ad (19 + 3 * i)))] := hl
  skip
  suffices hG : ∀ (H : Heap) (locs : List Loc), va_P D vwCl (wX cy ad S) H → va_S A s.heap H locs → W p l e (headSpec wsX1_noteDoer { frames := 2, cells := 0, slots := 0, locals := 42 }).room s m args below meth c H locs 0 0 (MQ below (QcV D A (wX cy ad S')) args s 0 0 A) (F0 m 0 ls []) by exact hG s.heap [] hP va_S.rf
  clear hP hS
  intro H locs hP hS
  refine lv_aload_n hx hb dX1_noteDoer_0 rfl (lv_at hl 0 rfl) ?_
  refine gfX1_9 hi hx hb hts (fun _ h => List.mem_cons_of_mem _ (List.mem_append_right _ h)) hown hK hP (hts (Cond.fieldLink RX1 44 "WhoSpeaks$Paragraph" "verbCount" "I") (List.mem_of_getElem? (i := 1) rfl)) dX1_noteDoer_1 ?_
  refine lv_if_ne (tgt := 39) hx hb dX1_noteDoer_4 (by decide) (fun c5 => ?_) (fun c5 => ?_)
  · have hf := (if_neg c5).symm.trans hf
    cases hf
    exact rV hx hb hr hP hS hlocks dX1_noteDoer_39
  · have hf := (if_pos c5).symm.trans hf
    refine lv_aload_n hx hb dX1_noteDoer_7 rfl (lv_at hl 0 rfl) ?_
    refine lv_iconst (v := 0) hx hb dX1_noteDoer_8 (by decide) ?_
    obtain ⟨r6, h7, hf⟩ := ob1_some hf
    refine kVi (As := [.int 0]) (rest := []) ⟨hx, hb, hml, hown, hts⟩ (okX1_kindAt l D cy ad A hD i 0 S r6 h7) (cwV 1 hts gX1_noteDoer_X1_kindAt rfl rfl rfl (by decide +kernel) ⟨Nat.le_of_ble_eq_true rfl, Nat.le_of_ble_eq_true rfl⟩) hK hP hS (va_recv hK.1 hP (ci := 1) (q := (RX1, TX1, 14)) rfl (atP0 cy ad S i hi)) rfl hl.1 rfl (Nat.le_of_ble_eq_true rfl) dX1_noteDoer_9 (fun H locs hP hS => ?_)
    refine lv_bipush (v := 65) hx hb dX1_noteDoer_12 (by decide) ?_
    refine lv_icmp_ne (tgt := 39) hx hb dX1_noteDoer_14 (by decide) (fun c8 => ?_) (fun c8 => ?_)
    · have hf := (if_neg c8).symm.trans hf
      cases hf
      exact rV hx hb hr hP hS hlocks dX1_noteDoer_39
    · have hf := (if_pos c8).symm.trans hf
      refine lv_aload_n hx hb dX1_noteDoer_17 rfl (lv_at hl 0 rfl) ?_
      refine lv_iconst (v := 1) hx hb dX1_noteDoer_18 (by decide) ?_
      obtain ⟨r9, h10, hf⟩ := ob1_some hf
      refine kVi (As := [.int 1]) (rest := []) ⟨hx, hb, hml, hown, hts⟩ (okX1_kindAt l D cy ad A hD i 1 S r9 h10) (cwV 1 hts gX1_noteDoer_X1_kindAt rfl rfl rfl (by decide +kernel) ⟨Nat.le_of_ble_eq_true rfl, Nat.le_of_ble_eq_true rfl⟩) hK hP hS (va_recv hK.1 hP (ci := 1) (q := (RX1, TX1, 14)) rfl (atP0 cy ad S i hi)) rfl hl.1 rfl (Nat.le_of_ble_eq_true rfl) dX1_noteDoer_19 (fun H locs hP hS => ?_)
      refine lv_bipush (v := 111) hx hb dX1_noteDoer_22 (by decide) ?_
      refine lv_icmp_ne (tgt := 39) hx hb dX1_noteDoer_24 (by decide) (fun c11 => ?_) (fun c11 => ?_)
      · have hf := (if_neg c11).symm.trans hf
        cases hf
        exact rV hx hb hr hP hS hlocks dX1_noteDoer_39
      · have hf := (if_pos c11).symm.trans hf
        refine lv_aload_n hx hb dX1_noteDoer_27 rfl (lv_at hl 0 rfl) ?_
        refine lv_aload_n hx hb dX1_noteDoer_28 rfl (lv_at hl 0 rfl) ?_
        refine lv_iconst (v := 0) hx hb dX1_noteDoer_29 (by decide) ?_
        obtain ⟨r12, h13, hf⟩ := ob1_some hf
        refine kVi (As := [.int 0]) (rest := [.ref (ad (19 + 3 * i))]) ⟨hx, hb, hml, hown, hts⟩ (okX1_personAt l D cy ad A hD i 0 S r12 h13) (cwV 1 hts gX1_noteDoer_X1_personAt rfl rfl rfl (by decide +kernel) ⟨Nat.le_of_ble_eq_true rfl, Nat.le_of_ble_eq_true rfl⟩) hK hP hS (va_recv hK.1 hP (ci := 1) (q := (RX1, TX1, 14)) rfl (atP0 cy ad S i hi)) rfl hl.1 rfl (Nat.le_of_ble_eq_true rfl) dX1_noteDoer_30 (fun H locs hP hS => ?_)
        refine kNi (As := [.int r12]) (rest := [.ref (ad (19 + 3 * i))]) ⟨hx, hb, hml, hown, hts⟩ (okX5_bitOf l D cy A (wX cy ad S) r12 _ rfl) ⟨va_cnB 1 hts gX1_noteDoer_X5_bitOf_n86 rfl rfl rfl hK.2.2.2.1 (hts (Cond.initialized RX5) (List.mem_of_getElem? (i := 11) rfl)) (by decide +kernel) ⟨Nat.le_of_ble_eq_true rfl, Nat.le_of_ble_eq_true rfl⟩, (hts (Cond.static yX5_bitOf) (List.mem_of_getElem? (i := 18) rfl)), trivial⟩ hK hP hS rfl hl.1 rfl (Nat.le_of_ble_eq_true rfl) dX1_noteDoer_33 (fun H locs hP hS => ?_)
        refine pfX1_13 (v := (fX5_bitOf r12)) hi hx hb hts (fun _ h => List.mem_cons_of_mem _ (List.mem_append_right _ h)) hown hK hP hD hS (hts (Cond.fieldLink RX1 56 "WhoSpeaks$Paragraph" "doers" "I") (List.mem_of_getElem? (i := 2) rfl)) dX1_noteDoer_36 (fun S15 eS15 H locs hP hS => ?_)
        have hf := bnd_of eS15 hf
        cases hf
        exact rV hx hb hr hP hS hlocks dX1_noteDoer_39

def bX1_addItem_79  (i : Nat) (x1 : Int32) (x2 : Int32) (s1 : Int32) (s2 : Int32) (S : XS) : Option XS := (ck s1 12 (bnd (xqW S i 1 s1.toNatClampNeg s2) (fun S25 => (bnd (xpW S25 i 7 ((xp S25 i 7) ||| (fX5_bitOf x2))) (fun S28 => (bnd (xpW S28 i 2 ((xp S28 i 2) + 1)) (fun S29 => (if x1 = 113 then (bnd (xpW S29 i 6 ((xp S29 i 6) + 1)) (fun S31 => (some S31))) else (some S29)))))))))
def bX1_addItem_61  (i : Nat) (x1 : Int32) (x2 : Int32) (x3 : Bool) (s1 : Int32) (s2 : Int32) (S : XS) : Option XS := (ck s1 12 (bnd (xqW S i 0 s1.toNatClampNeg s2) (fun S32 => (if (bi x3) = 0 then (bX1_addItem_79  i (x1) (x2) ((xp S32 i 2)) ((-1)) S32) else (bX1_addItem_79  i (x1) (x2) ((xp S32 i 2)) (x2) S32)))))
def fX1_addItem (i : Nat) (p0 : Int32) (S : XS) : Option XS := (if i < 17 then (if (bi (fX5_isWithin (xp S i 2) 12)) = 0 then (some S) else (if (bi (fX5_isWithin (xp S i 2) 12)) = 0 then (some S) else (bnd ((p0 - 65)) (fun y39 => (bnd ((fX5_isWithin y39 8)) (fun y41 => (if (bi y41) = 0 then (bX1_addItem_61  i (p0) (y39) (y41) ((xp S i 2)) (p0) S) else (bX1_addItem_61  i (p0) (y39) (y41) ((xp S i 2)) (65) S)))))))) else none)
set_option maxHeartbeats 4000000 in
set_option maxRecDepth 100000 in
theorem okX1_addItem (l : Launch) (D : va_G) (cy : Nat → ClassId) (ad : Nat → Nat) (A : Nat → Prop) (hD : ∀ S, va_D A (wX cy ad S)) (i : Nat) (p0 : Int32) (S : XS) (S' : XS) (hf : fX1_addItem i p0 S = some S') : MV l yX1_addItem wsX1_addItem { frames := 1, cells := 0, slots := 0, locals := 21 } D cy A (wX cy ad S) [.ref (ad (19 + 3 * i)), .int p0] (wX cy ad S') := by
  refine Met.ofW (cc := cX1_addItem) (maxL := 4) (ret := none) (by decide) rfl ?_
  intro p e s m args below meth c s₁ B hml hv
  obtain ⟨ha, hP, hK⟩ := hv
  have hx := B.exec
  have hb := B.bytes
  have hr := B.returns
  have hts := atoms_spec (ws := wsX1_addItem) B.pre
  have hown : s.vm.findClass RX1 = some m.cls := findClass_of_methodNamed B.named
  have hlocks := B.notSynchronized
  have hS : va_S A s.heap s.heap [] := va_S.rf
  obtain ⟨ls, hl, he0⟩ := ent (m := m) ha (n := 4) (Nat.le_of_ble_eq_true rfl)
  refine W.eq he0 ?_
  unfold fX1_addItem at hf
  obtain ⟨hi, hf⟩ := ck_no hf
  have hl : lv_has ls 4 [(0, .ref (ad (19 + 3 * i))), (1, .int p0)] := hl
  have K79 : ∀ (x1 : Int32) (x2 : Int32) (s1 : Int32) (s2 : Int32) (S : XS) (H : Heap) (locs : List Loc) (ls : Array Slot), va_P D vwCl (wX cy ad S) H → va_S A s.heap H locs → lv_has ls 4 [(0, .ref (ad (19 + 3 * i))), (1, .int x1), (2, .int x2)] → bX1_addItem_79  i x1 x2 s1 s2 S = some S' → W p l e (headSpec wsX1_addItem { frames := 1, cells := 0, slots := 0, locals := 21 }).room s m args below meth c H locs 0 0 (MQ below (QcV D A (wX cy ad S')) args s 0 0 A) (F0 m 79 ls [.int s2, .int s1, .ref (ad (21 + 3 * i))]) := by
    intro  x1 x2 s1 s2 S H locs ls hP hS hl hf
    unfold bX1_addItem_79 at hf
    obtain ⟨c26, hf⟩ := ck_some hf
    refine asP1 (v := s2) hi hx hb hK hP hD hS c26 dX1_addItem_79 (fun S25 eS25 H locs hP hS => ?_)
    have hf := bnd_of eS25 hf
    refine lv_aload_n hx hb dX1_addItem_80 rfl (lv_at hl 0 rfl) ?_
    refine lv_dup hx hb dX1_addItem_81 rfl ?_
    refine gfX1_7 hi hx hb hts (fun _ h => List.mem_cons_of_mem _ (List.mem_append_right _ h)) hown hK hP (hts (Cond.fieldLink RX1 38 "WhoSpeaks$Paragraph" "mentioned" "I") (List.mem_of_getElem? (i := 4) rfl)) dX1_addItem_82 ?_
    refine lv_iload_n hx hb dX1_addItem_85 rfl (lv_at hl 2 rfl) ?_
    refine kNi (As := [.int x2]) (rest := [.int (xp S25 i 7), .ref (ad (19 + 3 * i))]) ⟨hx, hb, hml, hown, hts⟩ (okX5_bitOf l D cy A (wX cy ad S25) x2 _ rfl) ⟨va_cnB 1 hts gX1_addItem_X5_bitOf_n86 rfl rfl rfl hK.2.2.2.1 (hts (Cond.initialized RX5) (List.mem_of_getElem? (i := 7) rfl)) (by decide +kernel) ⟨Nat.le_of_ble_eq_true rfl, Nat.le_of_ble_eq_true rfl⟩, (hts (Cond.static yX5_bitOf) (List.mem_of_getElem? (i := 9) rfl)), trivial⟩ hK hP hS rfl hl.1 rfl (Nat.le_of_ble_eq_true rfl) dX1_addItem_86 (fun H locs hP hS => ?_)
    refine lv_ior hx hb dX1_addItem_89 ?_
    refine pfX1_7 (v := ((xp S25 i 7) ||| (fX5_bitOf x2))) hi hx hb hts (fun _ h => List.mem_cons_of_mem _ (List.mem_append_right _ h)) hown hK hP hD hS (hts (Cond.fieldLink RX1 38 "WhoSpeaks$Paragraph" "mentioned" "I") (List.mem_of_getElem? (i := 4) rfl)) dX1_addItem_90 (fun S28 eS28 H locs hP hS => ?_)
    have hf := bnd_of eS28 hf
    refine lv_aload_n hx hb dX1_addItem_93 rfl (lv_at hl 0 rfl) ?_
    refine lv_dup hx hb dX1_addItem_94 rfl ?_
    refine gfX1_2 hi hx hb hts (fun _ h => List.mem_cons_of_mem _ (List.mem_append_right _ h)) hown hK hP (hts (Cond.fieldLink RX1 21 "WhoSpeaks$Paragraph" "count" "I") (List.mem_of_getElem? (i := 1) rfl)) dX1_addItem_95 ?_
    refine lv_iconst (v := 1) hx hb dX1_addItem_98 (by decide) ?_
    refine lv_iadd hx hb dX1_addItem_99 ?_
    refine pfX1_2 (v := ((xp S28 i 2) + 1)) hi hx hb hts (fun _ h => List.mem_cons_of_mem _ (List.mem_append_right _ h)) hown hK hP hD hS (hts (Cond.fieldLink RX1 21 "WhoSpeaks$Paragraph" "count" "I") (List.mem_of_getElem? (i := 1) rfl)) dX1_addItem_100 (fun S29 eS29 H locs hP hS => ?_)
    have hf := bnd_of eS29 hf
    refine lv_iload_n hx hb dX1_addItem_103 rfl (lv_at hl 1 rfl) ?_
    refine lv_bipush (v := 113) hx hb dX1_addItem_104 (by decide) ?_
    refine lv_icmp_ne (tgt := 119) hx hb dX1_addItem_106 (by decide) (fun c30 => ?_) (fun c30 => ?_)
    · have hf := (if_neg c30).symm.trans hf
      cases hf
      exact rV hx hb hr hP hS hlocks dX1_addItem_119
    · have hf := (if_pos c30).symm.trans hf
      refine lv_aload_n hx hb dX1_addItem_109 rfl (lv_at hl 0 rfl) ?_
      refine lv_dup hx hb dX1_addItem_110 rfl ?_
      refine gfX1_6 hi hx hb hts (fun _ h => List.mem_cons_of_mem _ (List.mem_append_right _ h)) hown hK hP (hts (Cond.fieldLink RX1 35 "WhoSpeaks$Paragraph" "quoteCount" "I") (List.mem_of_getElem? (i := 5) rfl)) dX1_addItem_111 ?_
      refine lv_iconst (v := 1) hx hb dX1_addItem_114 (by decide) ?_
      refine lv_iadd hx hb dX1_addItem_115 ?_
      refine pfX1_6 (v := ((xp S29 i 6) + 1)) hi hx hb hts (fun _ h => List.mem_cons_of_mem _ (List.mem_append_right _ h)) hown hK hP hD hS (hts (Cond.fieldLink RX1 35 "WhoSpeaks$Paragraph" "quoteCount" "I") (List.mem_of_getElem? (i := 5) rfl)) dX1_addItem_116 (fun S31 eS31 H locs hP hS => ?_)
      have hf := bnd_of eS31 hf
      cases hf
      exact rV hx hb hr hP hS hlocks dX1_addItem_119
  have K61 : ∀ (x1 : Int32) (x2 : Int32) (x3 : Bool) (s1 : Int32) (s2 : Int32) (S : XS) (H : Heap) (locs : List Loc) (ls : Array Slot), va_P D vwCl (wX cy ad S) H → va_S A s.heap H locs → lv_has ls 4 [(0, .ref (ad (19 + 3 * i))), (1, .int x1), (2, .int x2), (3, .int (bi x3))] → bX1_addItem_61  i x1 x2 x3 s1 s2 S = some S' → W p l e (headSpec wsX1_addItem { frames := 1, cells := 0, slots := 0, locals := 21 }).room s m args below meth c H locs 0 0 (MQ below (QcV D A (wX cy ad S')) args s 0 0 A) (F0 m 61 ls [.int s2, .int s1, .ref (ad (20 + 3 * i))]) := by
    intro  x1 x2 x3 s1 s2 S H locs ls hP hS hl hf
    unfold bX1_addItem_61 at hf
    obtain ⟨c33, hf⟩ := ck_some hf
    refine asP0 (v := s2) hi hx hb hK hP hD hS c33 dX1_addItem_61 (fun S32 eS32 H locs hP hS => ?_)
    have hf := bnd_of eS32 hf
    refine lv_aload_n hx hb dX1_addItem_62 rfl (lv_at hl 0 rfl) ?_
    refine gfX1_1 hi hx hb hts (fun _ h => List.mem_cons_of_mem _ (List.mem_append_right _ h)) hown hK hP (hts (Cond.fieldLink RX1 15 "WhoSpeaks$Paragraph" "persons" "[I") (List.mem_of_getElem? (i := 3) rfl)) dX1_addItem_63 ?_
    refine lv_aload_n hx hb dX1_addItem_66 rfl (lv_at hl 0 rfl) ?_
    refine gfX1_2 hi hx hb hts (fun _ h => List.mem_cons_of_mem _ (List.mem_append_right _ h)) hown hK hP (hts (Cond.fieldLink RX1 21 "WhoSpeaks$Paragraph" "count" "I") (List.mem_of_getElem? (i := 1) rfl)) dX1_addItem_67 ?_
    refine lv_iload_n hx hb dX1_addItem_70 rfl (lv_at hl 3 rfl) ?_
    refine lv_if_eq (tgt := 78) hx hb dX1_addItem_71 (by decide) (fun c34 => ?_) (fun c34 => ?_)
    · have hf := (if_pos c34).symm.trans hf
      refine lv_iconst (v := (-1)) hx hb dX1_addItem_78 (by decide) ?_
      exact K79  (x1) (x2) ((xp S32 i 2)) ((-1)) S32 H locs ls hP hS (lv_sub hl [0, 1, 2] rfl) hf
    · have hf := (if_neg c34).symm.trans hf
      refine lv_iload_n hx hb dX1_addItem_74 rfl (lv_at hl 2 rfl) ?_
      refine lv_goto (tgt := 79) hx hb dX1_addItem_75 (by decide) ?_
      exact K79  (x1) (x2) ((xp S32 i 2)) (x2) S32 H locs ls hP hS (lv_sub hl [0, 1, 2] rfl) hf
  skip
  suffices hG : ∀ (H : Heap) (locs : List Loc), va_P D vwCl (wX cy ad S) H → va_S A s.heap H locs → W p l e (headSpec wsX1_addItem { frames := 1, cells := 0, slots := 0, locals := 21 }).room s m args below meth c H locs 0 0 (MQ below (QcV D A (wX cy ad S')) args s 0 0 A) (F0 m 0 ls []) by exact hG s.heap [] hP va_S.rf
  clear hP hS
  intro H locs hP hS
  refine lv_aload_n hx hb dX1_addItem_0 rfl (lv_at hl 0 rfl) ?_
  refine gfX1_2 hi hx hb hts (fun _ h => List.mem_cons_of_mem _ (List.mem_append_right _ h)) hown hK hP (hts (Cond.fieldLink RX1 21 "WhoSpeaks$Paragraph" "count" "I") (List.mem_of_getElem? (i := 1) rfl)) dX1_addItem_1 ?_
  refine lv_aload_n hx hb dX1_addItem_4 rfl (lv_at hl 0 rfl) ?_
  refine gfX1_0 hi hx hb hts (fun _ h => List.mem_cons_of_mem _ (List.mem_append_right _ h)) hown hK hP (hts (Cond.fieldLink RX1 9 "WhoSpeaks$Paragraph" "kinds" "[I") (List.mem_of_getElem? (i := 2) rfl)) dX1_addItem_5 ?_
  refine anP0 hi hx hb hK hP dX1_addItem_8 ?_
  refine kNi (As := [.int (xp S i 2), .int 12]) (rest := []) ⟨hx, hb, hml, hown, hts⟩ (okX5_isWithin l D cy A (wX cy ad S) (xp S i 2) 12 _ rfl) ⟨va_cnB 2 hts gX1_addItem_X5_isWithin_n82 rfl rfl rfl hK.2.2.2.2.2.2.2 (hts (Cond.initialized RX5) (List.mem_of_getElem? (i := 7) rfl)) (by decide +kernel) ⟨Nat.le_of_ble_eq_true rfl, Nat.le_of_ble_eq_true rfl⟩, (hts (Cond.static yX5_isWithin) (List.mem_of_getElem? (i := 6) rfl)), trivial⟩ hK hP hS rfl hl.1 rfl (Nat.le_of_ble_eq_true rfl) dX1_addItem_9 (fun H locs hP hS => ?_)
  refine lv_if_eq (tgt := 30) hx hb dX1_addItem_12 (by decide) (fun c36 => ?_) (fun c36 => ?_)
  · have hf := (if_pos c36).symm.trans hf
    cases hf
    exact rV hx hb hr hP hS hlocks dX1_addItem_30
  · have hf := (if_neg c36).symm.trans hf
    refine lv_aload_n hx hb dX1_addItem_15 rfl (lv_at hl 0 rfl) ?_
    refine gfX1_2 hi hx hb hts (fun _ h => List.mem_cons_of_mem _ (List.mem_append_right _ h)) hown hK hP (hts (Cond.fieldLink RX1 21 "WhoSpeaks$Paragraph" "count" "I") (List.mem_of_getElem? (i := 1) rfl)) dX1_addItem_16 ?_
    refine lv_aload_n hx hb dX1_addItem_19 rfl (lv_at hl 0 rfl) ?_
    refine gfX1_1 hi hx hb hts (fun _ h => List.mem_cons_of_mem _ (List.mem_append_right _ h)) hown hK hP (hts (Cond.fieldLink RX1 15 "WhoSpeaks$Paragraph" "persons" "[I") (List.mem_of_getElem? (i := 3) rfl)) dX1_addItem_20 ?_
    refine anP1 hi hx hb hK hP dX1_addItem_23 ?_
    refine kNi (As := [.int (xp S i 2), .int 12]) (rest := []) ⟨hx, hb, hml, hown, hts⟩ (okX5_isWithin l D cy A (wX cy ad S) (xp S i 2) 12 _ rfl) ⟨va_cnB 2 hts gX1_addItem_X5_isWithin_n82 rfl rfl rfl hK.2.2.2.2.2.2.2 (hts (Cond.initialized RX5) (List.mem_of_getElem? (i := 7) rfl)) (by decide +kernel) ⟨Nat.le_of_ble_eq_true rfl, Nat.le_of_ble_eq_true rfl⟩, (hts (Cond.static yX5_isWithin) (List.mem_of_getElem? (i := 6) rfl)), trivial⟩ hK hP hS rfl hl.1 rfl (Nat.le_of_ble_eq_true rfl) dX1_addItem_24 (fun H locs hP hS => ?_)
    refine lv_if_ne (tgt := 31) hx hb dX1_addItem_27 (by decide) (fun c38 => ?_) (fun c38 => ?_)
    · have hf := (if_neg c38).symm.trans hf
      refine lv_iload_n hx hb dX1_addItem_31 rfl (lv_at hl 1 rfl) ?_
      refine lv_bipush (v := 65) hx hb dX1_addItem_32 (by decide) ?_
      refine lv_isub hx hb dX1_addItem_34 ?_
      refine lv_topi (fun y39 ey39 => ?_)
      have hf := bnd_of ey39 hf
      refine lv_istore_n (lv' := [(2, .int y39), (0, .ref (ad (19 + 3 * i))), (1, .int p0)]) hx hb dX1_addItem_35 rfl hl (by decide) rfl (fun ls hl => ?_)
      refine lv_iload_n hx hb dX1_addItem_36 rfl (lv_at hl 0 rfl) ?_
      refine lv_bipush (v := 8) hx hb dX1_addItem_37 (by decide) ?_
      refine kNi (As := [.int y39, .int 8]) (rest := []) ⟨hx, hb, hml, hown, hts⟩ (okX5_isWithin l D cy A (wX cy ad S) y39 8 _ rfl) ⟨va_cnB 2 hts gX1_addItem_X5_isWithin_n82 rfl rfl rfl hK.2.2.2.2.2.2.2 (hts (Cond.initialized RX5) (List.mem_of_getElem? (i := 7) rfl)) (by decide +kernel) ⟨Nat.le_of_ble_eq_true rfl, Nat.le_of_ble_eq_true rfl⟩, (hts (Cond.static yX5_isWithin) (List.mem_of_getElem? (i := 6) rfl)), trivial⟩ hK hP hS rfl hl.1 rfl (Nat.le_of_ble_eq_true rfl) dX1_addItem_39 (fun H locs hP hS => ?_)
      obtain ⟨y41, ey41⟩ : ∃ b : Bool, b = (fX5_isWithin y39 8) := ⟨_, rfl⟩
      rw [← ey41]
      have hf := bnd_of ey41 hf
      refine lv_istore_n (lv' := [(3, .int (bi y41)), (2, .int y39), (0, .ref (ad (19 + 3 * i))), (1, .int p0)]) hx hb dX1_addItem_42 rfl hl (by decide) rfl (fun ls hl => ?_)
      refine lv_aload_n hx hb dX1_addItem_43 rfl (lv_at hl 2 rfl) ?_
      refine gfX1_0 hi hx hb hts (fun _ h => List.mem_cons_of_mem _ (List.mem_append_right _ h)) hown hK hP (hts (Cond.fieldLink RX1 9 "WhoSpeaks$Paragraph" "kinds" "[I") (List.mem_of_getElem? (i := 2) rfl)) dX1_addItem_44 ?_
      refine lv_aload_n hx hb dX1_addItem_47 rfl (lv_at hl 2 rfl) ?_
      refine gfX1_2 hi hx hb hts (fun _ h => List.mem_cons_of_mem _ (List.mem_append_right _ h)) hown hK hP (hts (Cond.fieldLink RX1 21 "WhoSpeaks$Paragraph" "count" "I") (List.mem_of_getElem? (i := 1) rfl)) dX1_addItem_48 ?_
      refine lv_iload_n hx hb dX1_addItem_51 rfl (lv_at hl 0 rfl) ?_
      refine lv_if_eq (tgt := 60) hx hb dX1_addItem_52 (by decide) (fun c42 => ?_) (fun c42 => ?_)
      · have hf := (if_pos c42).symm.trans hf
        refine lv_iload_n hx hb dX1_addItem_60 rfl (lv_at hl 3 rfl) ?_
        exact K61  (p0) (y39) (y41) ((xp S i 2)) (p0) S H locs ls hP hS (lv_sub hl [2, 3, 1, 0] rfl) hf
      · have hf := (if_neg c42).symm.trans hf
        refine lv_bipush (v := 65) hx hb dX1_addItem_55 (by decide) ?_
        refine lv_goto (tgt := 61) hx hb dX1_addItem_57 (by decide) ?_
        exact K61  (p0) (y39) (y41) ((xp S i 2)) (65) S H locs ls hP hS (lv_sub hl [2, 3, 1, 0] rfl) hf
    · have hf := (if_pos c38).symm.trans hf
      cases hf
      exact rV hx hb hr hP hS hlocks dX1_addItem_30

def fX1_noteSpokenTo (i : Nat) (p0 : Int32) (S : XS) : Option XS := (if i < 17 then (bnd (xpW S i 7 ((xp S i 7) ||| (fX5_bitOf p0))) (fun S4 => (bnd (xpW S4 i 8 ((xp S4 i 8) ||| (fX5_bitOf p0))) (fun S6 => (some S6))))) else none)
set_option maxHeartbeats 4000000 in
set_option maxRecDepth 100000 in
theorem okX1_noteSpokenTo (l : Launch) (D : va_G) (cy : Nat → ClassId) (ad : Nat → Nat) (A : Nat → Prop) (hD : ∀ S, va_D A (wX cy ad S)) (i : Nat) (p0 : Int32) (S : XS) (S' : XS) (hf : fX1_noteSpokenTo i p0 S = some S') : MV l yX1_noteSpokenTo wsX1_noteSpokenTo { frames := 1, cells := 0, slots := 0, locals := 20 } D cy A (wX cy ad S) [.ref (ad (19 + 3 * i)), .int p0] (wX cy ad S') := by
  refine Met.ofW (cc := cX1_noteSpokenTo) (maxL := 2) (ret := none) (by decide) rfl ?_
  intro p e s m args below meth c s₁ B hml hv
  obtain ⟨ha, hP, hK⟩ := hv
  have hx := B.exec
  have hb := B.bytes
  have hr := B.returns
  have hts := atoms_spec (ws := wsX1_noteSpokenTo) B.pre
  have hown : s.vm.findClass RX1 = some m.cls := findClass_of_methodNamed B.named
  have hlocks := B.notSynchronized
  have hS : va_S A s.heap s.heap [] := va_S.rf
  obtain ⟨ls, hl, he0⟩ := ent (m := m) ha (n := 2) (Nat.le_of_ble_eq_true rfl)
  refine W.eq he0 ?_
  unfold fX1_noteSpokenTo at hf
  obtain ⟨hi, hf⟩ := ck_no hf
  have hl : lv_has ls 2 [(0, .ref (ad (19 + 3 * i))), (1, .int p0)] := hl
  skip
  suffices hG : ∀ (H : Heap) (locs : List Loc), va_P D vwCl (wX cy ad S) H → va_S A s.heap H locs → W p l e (headSpec wsX1_noteSpokenTo { frames := 1, cells := 0, slots := 0, locals := 20 }).room s m args below meth c H locs 0 0 (MQ below (QcV D A (wX cy ad S')) args s 0 0 A) (F0 m 0 ls []) by exact hG s.heap [] hP va_S.rf
  clear hP hS
  intro H locs hP hS
  refine lv_aload_n hx hb dX1_noteSpokenTo_0 rfl (lv_at hl 0 rfl) ?_
  refine lv_dup hx hb dX1_noteSpokenTo_1 rfl ?_
  refine gfX1_7 hi hx hb hts (fun _ h => List.mem_cons_of_mem _ (List.mem_append_right _ h)) hown hK hP (hts (Cond.fieldLink RX1 38 "WhoSpeaks$Paragraph" "mentioned" "I") (List.mem_of_getElem? (i := 1) rfl)) dX1_noteSpokenTo_2 ?_
  refine lv_iload_n hx hb dX1_noteSpokenTo_5 rfl (lv_at hl 1 rfl) ?_
  refine kNi (As := [.int p0]) (rest := [.int (xp S i 7), .ref (ad (19 + 3 * i))]) ⟨hx, hb, hml, hown, hts⟩ (okX5_bitOf l D cy A (wX cy ad S) p0 _ rfl) ⟨va_cnB 1 hts gX1_noteSpokenTo_X5_bitOf_n86 rfl rfl rfl hK.2.2.2.1 (hts (Cond.initialized RX5) (List.mem_of_getElem? (i := 4) rfl)) (by decide +kernel) ⟨Nat.le_of_ble_eq_true rfl, Nat.le_of_ble_eq_true rfl⟩, (hts (Cond.static yX5_bitOf) (List.mem_of_getElem? (i := 3) rfl)), trivial⟩ hK hP hS rfl hl.1 rfl (Nat.le_of_ble_eq_true rfl) dX1_noteSpokenTo_6 (fun H locs hP hS => ?_)
  refine lv_ior hx hb dX1_noteSpokenTo_9 ?_
  refine pfX1_7 (v := ((xp S i 7) ||| (fX5_bitOf p0))) hi hx hb hts (fun _ h => List.mem_cons_of_mem _ (List.mem_append_right _ h)) hown hK hP hD hS (hts (Cond.fieldLink RX1 38 "WhoSpeaks$Paragraph" "mentioned" "I") (List.mem_of_getElem? (i := 1) rfl)) dX1_noteSpokenTo_10 (fun S4 eS4 H locs hP hS => ?_)
  have hf := bnd_of eS4 hf
  refine lv_aload_n hx hb dX1_noteSpokenTo_13 rfl (lv_at hl 0 rfl) ?_
  refine lv_dup hx hb dX1_noteSpokenTo_14 rfl ?_
  refine gfX1_8 hi hx hb hts (fun _ h => List.mem_cons_of_mem _ (List.mem_append_right _ h)) hown hK hP (hts (Cond.fieldLink RX1 41 "WhoSpeaks$Paragraph" "spokenTo" "I") (List.mem_of_getElem? (i := 2) rfl)) dX1_noteSpokenTo_15 ?_
  refine lv_iload_n hx hb dX1_noteSpokenTo_18 rfl (lv_at hl 1 rfl) ?_
  refine kNi (As := [.int p0]) (rest := [.int (xp S4 i 8), .ref (ad (19 + 3 * i))]) ⟨hx, hb, hml, hown, hts⟩ (okX5_bitOf l D cy A (wX cy ad S4) p0 _ rfl) ⟨va_cnB 1 hts gX1_noteSpokenTo_X5_bitOf_n86 rfl rfl rfl hK.2.2.2.1 (hts (Cond.initialized RX5) (List.mem_of_getElem? (i := 4) rfl)) (by decide +kernel) ⟨Nat.le_of_ble_eq_true rfl, Nat.le_of_ble_eq_true rfl⟩, (hts (Cond.static yX5_bitOf) (List.mem_of_getElem? (i := 3) rfl)), trivial⟩ hK hP hS rfl hl.1 rfl (Nat.le_of_ble_eq_true rfl) dX1_noteSpokenTo_19 (fun H locs hP hS => ?_)
  refine lv_ior hx hb dX1_noteSpokenTo_22 ?_
  refine pfX1_8 (v := ((xp S4 i 8) ||| (fX5_bitOf p0))) hi hx hb hts (fun _ h => List.mem_cons_of_mem _ (List.mem_append_right _ h)) hown hK hP hD hS (hts (Cond.fieldLink RX1 41 "WhoSpeaks$Paragraph" "spokenTo" "I") (List.mem_of_getElem? (i := 2) rfl)) dX1_noteSpokenTo_23 (fun S6 eS6 H locs hP hS => ?_)
  have hf := bnd_of eS6 hf
  cases hf
  exact rV hx hb hr hP hS hlocks dX1_noteSpokenTo_26

def bX1_read_41  (k41 : Int32 × XS → Option XS) (i : Nat) (x3 : Int32) (S : XS) : Option XS := (if (fX4_length  S) ≤ x3 then (ob1 (fX1_noteVerbs i S) (fun S24 => (ob1 (fX1_noteDoer i S24) (fun S26 => (some S26))))) else (ob1 (fX4_codeAt x3 S) (fun r27 => (ob1 (fX4_codeAt (x3 - 1) S) (fun r29 => (if r29 = 64 then (ob1 (fX1_noteSpokenTo i (r27 - 65) S) (fun S36 => (k41 ((x3 + 1), S36)))) else (if r27 = 64 then (k41 ((x3 + 1), S)) else (ob1 (fX1_addItem i r27 S) (fun S34 => (k41 ((x3 + 1), S34)))))))))))
def bX1_read_25  (i : Nat) (s1 : Bool) (S : XS) : Option XS := (bnd (xpW S i 3 (bi s1)) (fun S37 => (if (xp S37 i 3) = 0 then (lp (fun k q => bX1_read_41  k i q.1 q.2) FU (0, S37)) else (lp (fun k q => bX1_read_41  k i q.1 q.2) FU (1, S37)))))
def fX1_read (i : Nat) (p1 : Int32) (S : XS) : Option XS := (if i < 17 then (ob1 (fX1_forgetAll i S) (fun S40 => (bnd (xpW S40 i 4 p1) (fun S41 => (ob1 (fX4_codeAt 0 S41) (fun r42 => (if r42 = 43 then (bX1_read_25  i (true) S41) else (bX1_read_25  i (false) S41)))))))) else none)
set_option maxHeartbeats 4000000 in
set_option maxRecDepth 100000 in
theorem okX1_read (l : Launch) (D : va_G) (cy : Nat → ClassId) (ad : Nat → Nat) (A : Nat → Prop) (hD : ∀ S, va_D A (wX cy ad S)) (i : Nat) (p1 : Int32) (S : XS) (S' : XS) (hf : fX1_read i p1 S = some S') : MV l yX1_read wsX1_read { frames := 4, cells := 0, slots := 0, locals := 88 } D cy A (wX cy ad S) [.ref (ad (19 + 3 * i)), .ref (ad 3), .int p1] (wX cy ad S') := by
  refine Met.ofW (cc := cX1_read) (maxL := 5) (ret := none) (by decide) rfl ?_
  intro p e s m args below meth c s₁ B hml hv
  obtain ⟨ha, hP, hK⟩ := hv
  have hx := B.exec
  have hb := B.bytes
  have hr := B.returns
  have hts := atoms_spec (ws := wsX1_read) B.pre
  have hown : s.vm.findClass RX1 = some m.cls := findClass_of_methodNamed B.named
  have hlocks := B.notSynchronized
  have hS : va_S A s.heap s.heap [] := va_S.rf
  obtain ⟨ls, hl, he0⟩ := ent (m := m) ha (n := 5) (Nat.le_of_ble_eq_true rfl)
  refine W.eq he0 ?_
  unfold fX1_read at hf
  obtain ⟨hi, hf⟩ := ck_no hf
  have hl : lv_has ls 5 [(0, .ref (ad (19 + 3 * i))), (1, .ref (ad 3)), (2, .int p1)] := hl
  have K41 : ∀ (n : Nat), ∀ (x3 : Int32) (S : XS) (H : Heap) (locs : List Loc) (ls : Array Slot), va_P D vwCl (wX cy ad S) H → va_S A s.heap H locs → lv_has ls 5 [(0, .ref (ad (19 + 3 * i))), (1, .ref (ad 3)), (3, .int x3)] → lp (fun k q => bX1_read_41  k i q.1 q.2) n (x3, S) = some S' → W p l e (headSpec wsX1_read { frames := 4, cells := 0, slots := 0, locals := 88 }).room s m args below meth c H locs 0 0 (MQ below (QcV D A (wX cy ad S')) args s 0 0 A) (F0 m 41 ls []) := by
    intro  n
    induction n with
    | zero =>
      intro x3 S H locs ls hP hS hl hf
      cases hf
    | succ n ih41 =>
      intro x3 S H locs ls hP hS hl hf
      have hf : bX1_read_41  (lp (fun k q => bX1_read_41  k i q.1 q.2) n) i x3 S = some S' := hf
      generalize lp (fun k q => bX1_read_41  k i q.1 q.2) n = k41 at hf ih41
      unfold bX1_read_41 at hf
      refine lv_iload_n hx hb dX1_read_41 rfl (lv_at hl 2 rfl) ?_
      refine lv_aload_n hx hb dX1_read_42 rfl (lv_at hl 1 rfl) ?_
      refine kVi (As := []) (rest := [.int x3]) ⟨hx, hb, hml, hown, hts⟩ (okX4_length l D cy ad A hD  S _ rfl) (cwV 0 hts gX1_read_X4_length rfl rfl rfl (by decide +kernel) ⟨Nat.le_of_ble_eq_true rfl, Nat.le_of_ble_eq_true rfl⟩) hK hP hS (va_recv hK.1 hP (ci := 4) (q := (RX4, TX4, 2)) rfl (atX3 cy ad S)) rfl hl.1 rfl (Nat.le_of_ble_eq_true rfl) dX1_read_43 (fun H locs hP hS => ?_)
      refine lv_icmp_ge (tgt := 99) hx hb dX1_read_46 (by decide) (fun c22 => ?_) (fun c22 => ?_)
      · have hf := (if_pos c22).symm.trans hf
        refine lv_aload_n hx hb dX1_read_99 rfl (lv_at hl 0 rfl) ?_
        obtain ⟨S24, h23, hf⟩ := ob1_some hf
        refine kVv (As := []) (rest := []) ⟨hx, hb, hml, hown, hts⟩ (okX1_noteVerbs l D cy ad A hD i S S24 h23) (cwV 0 hts gX1_read_X1_noteVerbs rfl rfl rfl (by decide +kernel) ⟨Nat.le_of_ble_eq_true rfl, Nat.le_of_ble_eq_true rfl⟩) hK hP hS (va_recv hK.1 hP (ci := 1) (q := (RX1, TX1, 14)) rfl (atP0 cy ad S i hi)) rfl hl.1 rfl (Nat.le_of_ble_eq_true rfl) dX1_read_100 (fun H locs hP hS => ?_)
        refine lv_aload_n hx hb dX1_read_103 rfl (lv_at hl 0 rfl) ?_
        obtain ⟨S26, h25, hf⟩ := ob1_some hf
        refine kVv (As := []) (rest := []) ⟨hx, hb, hml, hown, hts⟩ (okX1_noteDoer l D cy ad A hD i S24 S26 h25) (cwV 0 hts gX1_read_X1_noteDoer rfl rfl rfl (by decide +kernel) ⟨Nat.le_of_ble_eq_true rfl, Nat.le_of_ble_eq_true rfl⟩) hK hP hS (va_recv hK.1 hP (ci := 1) (q := (RX1, TX1, 14)) rfl (atP0 cy ad S24 i hi)) rfl hl.1 rfl (Nat.le_of_ble_eq_true rfl) dX1_read_104 (fun H locs hP hS => ?_)
        cases hf
        exact rV hx hb hr hP hS hlocks dX1_read_107
      · have hf := (if_neg c22).symm.trans hf
        refine lv_aload_n hx hb dX1_read_49 rfl (lv_at hl 1 rfl) ?_
        refine lv_iload_n hx hb dX1_read_50 rfl (lv_at hl 2 rfl) ?_
        obtain ⟨r27, h28, hf⟩ := ob1_some hf
        refine kVi (As := [.int x3]) (rest := []) ⟨hx, hb, hml, hown, hts⟩ (okX4_codeAt l D cy ad A hD x3 S r27 h28) (cwV 1 hts gX1_read_X4_codeAt rfl rfl rfl (by decide +kernel) ⟨Nat.le_of_ble_eq_true rfl, Nat.le_of_ble_eq_true rfl⟩) hK hP hS (va_recv hK.1 hP (ci := 4) (q := (RX4, TX4, 2)) rfl (atX3 cy ad S)) rfl hl.1 rfl (Nat.le_of_ble_eq_true rfl) dX1_read_51 (fun H locs hP hS => ?_)
        refine lv_istore (lv' := [(4, .int r27), (0, .ref (ad (19 + 3 * i))), (1, .ref (ad 3)), (3, .int x3)]) hx hb dX1_read_54 hl (by decide) rfl (fun ls hl => ?_)
        refine lv_aload_n hx hb dX1_read_56 rfl (lv_at hl 2 rfl) ?_
        refine lv_iload_n hx hb dX1_read_57 rfl (lv_at hl 3 rfl) ?_
        refine lv_iconst (v := 1) hx hb dX1_read_58 (by decide) ?_
        refine lv_isub hx hb dX1_read_59 ?_
        obtain ⟨r29, h30, hf⟩ := ob1_some hf
        refine kVi (As := [.int (x3 - 1)]) (rest := []) ⟨hx, hb, hml, hown, hts⟩ (okX4_codeAt l D cy ad A hD (x3 - 1) S r29 h30) (cwV 1 hts gX1_read_X4_codeAt rfl rfl rfl (by decide +kernel) ⟨Nat.le_of_ble_eq_true rfl, Nat.le_of_ble_eq_true rfl⟩) hK hP hS (va_recv hK.1 hP (ci := 4) (q := (RX4, TX4, 2)) rfl (atX3 cy ad S)) rfl hl.1 rfl (Nat.le_of_ble_eq_true rfl) dX1_read_60 (fun H locs hP hS => ?_)
        refine lv_bipush (v := 64) hx hb dX1_read_63 (by decide) ?_
        refine lv_icmp_ne (tgt := 80) hx hb dX1_read_65 (by decide) (fun c31 => ?_) (fun c31 => ?_)
        · have hf := (if_neg c31).symm.trans hf
          refine lv_iload hx hb dX1_read_80 (lv_at hl 0 rfl) ?_
          refine lv_bipush (v := 64) hx hb dX1_read_82 (by decide) ?_
          refine lv_icmp_eq (tgt := 93) hx hb dX1_read_84 (by decide) (fun c32 => ?_) (fun c32 => ?_)
          · have hf := (if_pos c32).symm.trans hf
            refine lv_iinc (v := (x3 + 1)) (lv' := [(3, .int (x3 + 1)), (4, .int r27), (0, .ref (ad (19 + 3 * i))), (1, .ref (ad 3))]) hx hb dX1_read_93 hl (k := 3) rfl rfl (by decide) rfl (fun ls hl => ?_)
            refine lv_goto (tgt := 41) hx hb dX1_read_96 (by decide) ?_
            exact ih41 ((x3 + 1)) S H locs ls hP hS (lv_sub hl [2, 3, 0] rfl) hf
          · have hf := (if_neg c32).symm.trans hf
            refine lv_aload_n hx hb dX1_read_87 rfl (lv_at hl 1 rfl) ?_
            refine lv_iload hx hb dX1_read_88 (lv_at hl 0 rfl) ?_
            obtain ⟨S34, h33, hf⟩ := ob1_some hf
            refine kVv (As := [.int r27]) (rest := []) ⟨hx, hb, hml, hown, hts⟩ (okX1_addItem l D cy ad A hD i r27 S S34 h33) (cwV 1 hts gX1_read_X1_addItem rfl rfl rfl (by decide +kernel) ⟨Nat.le_of_ble_eq_true rfl, Nat.le_of_ble_eq_true rfl⟩) hK hP hS (va_recv hK.1 hP (ci := 1) (q := (RX1, TX1, 14)) rfl (atP0 cy ad S i hi)) rfl hl.1 rfl (Nat.le_of_ble_eq_true rfl) dX1_read_90 (fun H locs hP hS => ?_)
            refine lv_iinc (v := (x3 + 1)) (lv' := [(3, .int (x3 + 1)), (4, .int r27), (0, .ref (ad (19 + 3 * i))), (1, .ref (ad 3))]) hx hb dX1_read_93 hl (k := 3) rfl rfl (by decide) rfl (fun ls hl => ?_)
            refine lv_goto (tgt := 41) hx hb dX1_read_96 (by decide) ?_
            exact ih41 ((x3 + 1)) S34 H locs ls hP hS (lv_sub hl [2, 3, 0] rfl) hf
        · have hf := (if_pos c31).symm.trans hf
          refine lv_aload_n hx hb dX1_read_68 rfl (lv_at hl 1 rfl) ?_
          refine lv_iload hx hb dX1_read_69 (lv_at hl 0 rfl) ?_
          refine lv_bipush (v := 65) hx hb dX1_read_71 (by decide) ?_
          refine lv_isub hx hb dX1_read_73 ?_
          obtain ⟨S36, h35, hf⟩ := ob1_some hf
          refine kVv (As := [.int (r27 - 65)]) (rest := []) ⟨hx, hb, hml, hown, hts⟩ (okX1_noteSpokenTo l D cy ad A hD i (r27 - 65) S S36 h35) (cwV 1 hts gX1_read_X1_noteSpokenTo rfl rfl rfl (by decide +kernel) ⟨Nat.le_of_ble_eq_true rfl, Nat.le_of_ble_eq_true rfl⟩) hK hP hS (va_recv hK.1 hP (ci := 1) (q := (RX1, TX1, 14)) rfl (atP0 cy ad S i hi)) rfl hl.1 rfl (Nat.le_of_ble_eq_true rfl) dX1_read_74 (fun H locs hP hS => ?_)
          refine lv_goto (tgt := 93) hx hb dX1_read_77 (by decide) ?_
          refine lv_iinc (v := (x3 + 1)) (lv' := [(3, .int (x3 + 1)), (4, .int r27), (0, .ref (ad (19 + 3 * i))), (1, .ref (ad 3))]) hx hb dX1_read_93 hl (k := 3) rfl rfl (by decide) rfl (fun ls hl => ?_)
          refine lv_goto (tgt := 41) hx hb dX1_read_96 (by decide) ?_
          exact ih41 ((x3 + 1)) S36 H locs ls hP hS (lv_sub hl [2, 3, 0] rfl) hf
  have K25 : ∀ (s1 : Bool) (S : XS) (H : Heap) (locs : List Loc) (ls : Array Slot), va_P D vwCl (wX cy ad S) H → va_S A s.heap H locs → lv_has ls 5 [(0, .ref (ad (19 + 3 * i))), (1, .ref (ad 3))] → bX1_read_25  i s1 S = some S' → W p l e (headSpec wsX1_read { frames := 4, cells := 0, slots := 0, locals := 88 }).room s m args below meth c H locs 0 0 (MQ below (QcV D A (wX cy ad S')) args s 0 0 A) (F0 m 25 ls [.int (bi s1), .ref (ad (19 + 3 * i))]) := by
    intro  s1 S H locs ls hP hS hl hf
    unfold bX1_read_25 at hf
    refine pfX1_3 (v := (bi s1)) hi (bi_nar s1) (bi_fit s1) hx hb hts (fun _ h => List.mem_cons_of_mem _ (List.mem_append_left _ (List.mem_append_right _ h))) hown hK hP hD hS (hts (Cond.fieldLink RX1 25 "WhoSpeaks$Paragraph" "on" "Z") (List.mem_of_getElem? (i := 2) rfl)) dX1_read_25 (fun S37 eS37 H locs hP hS => ?_)
    have hf := bnd_of eS37 hf
    refine lv_aload_n hx hb dX1_read_28 rfl (lv_at hl 0 rfl) ?_
    refine gfX1_3 hi hx hb hts (fun _ h => List.mem_cons_of_mem _ (List.mem_append_left _ (List.mem_append_right _ h))) hown hK hP (hts (Cond.fieldLink RX1 25 "WhoSpeaks$Paragraph" "on" "Z") (List.mem_of_getElem? (i := 2) rfl)) dX1_read_29 ?_
    refine lv_if_eq (tgt := 39) hx hb dX1_read_32 (by decide) (fun c38 => ?_) (fun c38 => ?_)
    · have hf := (if_pos c38).symm.trans hf
      refine lv_iconst (v := 0) hx hb dX1_read_39 (by decide) ?_
      refine lv_istore_n (lv' := [(3, .int 0), (0, .ref (ad (19 + 3 * i))), (1, .ref (ad 3))]) hx hb dX1_read_40 rfl hl (by decide) rfl (fun ls hl => ?_)
      exact K41  FU (0) S37 H locs ls hP hS (lv_sub hl [1, 2, 0] rfl) hf
    · have hf := (if_neg c38).symm.trans hf
      refine lv_iconst (v := 1) hx hb dX1_read_35 (by decide) ?_
      refine lv_goto (tgt := 40) hx hb dX1_read_36 (by decide) ?_
      refine lv_istore_n (lv' := [(3, .int 1), (0, .ref (ad (19 + 3 * i))), (1, .ref (ad 3))]) hx hb dX1_read_40 rfl hl (by decide) rfl (fun ls hl => ?_)
      exact K41  FU (1) S37 H locs ls hP hS (lv_sub hl [1, 2, 0] rfl) hf
  skip
  suffices hG : ∀ (H : Heap) (locs : List Loc), va_P D vwCl (wX cy ad S) H → va_S A s.heap H locs → W p l e (headSpec wsX1_read { frames := 4, cells := 0, slots := 0, locals := 88 }).room s m args below meth c H locs 0 0 (MQ below (QcV D A (wX cy ad S')) args s 0 0 A) (F0 m 0 ls []) by exact hG s.heap [] hP va_S.rf
  clear hP hS
  intro H locs hP hS
  refine lv_aload_n hx hb dX1_read_0 rfl (lv_at hl 0 rfl) ?_
  obtain ⟨S40, h39, hf⟩ := ob1_some hf
  refine kVv (As := []) (rest := []) ⟨hx, hb, hml, hown, hts⟩ (okX1_forgetAll l D cy ad A hD i S S40 h39) (cwV 0 hts gX1_read_X1_forgetAll rfl rfl rfl (by decide +kernel) ⟨Nat.le_of_ble_eq_true rfl, Nat.le_of_ble_eq_true rfl⟩) hK hP hS (va_recv hK.1 hP (ci := 1) (q := (RX1, TX1, 14)) rfl (atP0 cy ad S i hi)) rfl hl.1 rfl (Nat.le_of_ble_eq_true rfl) dX1_read_1 (fun H locs hP hS => ?_)
  refine lv_aload_n hx hb dX1_read_4 rfl (lv_at hl 0 rfl) ?_
  refine lv_iload_n hx hb dX1_read_5 rfl (lv_at hl 2 rfl) ?_
  refine pfX1_4 (v := p1) hi hx hb hts (fun _ h => List.mem_cons_of_mem _ (List.mem_append_left _ (List.mem_append_right _ h))) hown hK hP hD hS (hts (Cond.fieldLink RX1 29 "WhoSpeaks$Paragraph" "here" "I") (List.mem_of_getElem? (i := 1) rfl)) dX1_read_6 (fun S41 eS41 H locs hP hS => ?_)
  have hf := bnd_of eS41 hf
  refine lv_aload_n hx hb dX1_read_9 rfl (lv_at hl 0 rfl) ?_
  refine lv_aload_n hx hb dX1_read_10 rfl (lv_at hl 1 rfl) ?_
  refine lv_iconst (v := 0) hx hb dX1_read_11 (by decide) ?_
  obtain ⟨r42, h43, hf⟩ := ob1_some hf
  refine kVi (As := [.int 0]) (rest := [.ref (ad (19 + 3 * i))]) ⟨hx, hb, hml, hown, hts⟩ (okX4_codeAt l D cy ad A hD 0 S41 r42 h43) (cwV 1 hts gX1_read_X4_codeAt rfl rfl rfl (by decide +kernel) ⟨Nat.le_of_ble_eq_true rfl, Nat.le_of_ble_eq_true rfl⟩) hK hP hS (va_recv hK.1 hP (ci := 4) (q := (RX4, TX4, 2)) rfl (atX3 cy ad S41)) rfl hl.1 rfl (Nat.le_of_ble_eq_true rfl) dX1_read_12 (fun H locs hP hS => ?_)
  refine lv_bipush (v := 43) hx hb dX1_read_15 (by decide) ?_
  refine lv_icmp_ne (tgt := 24) hx hb dX1_read_17 (by decide) (fun c44 => ?_) (fun c44 => ?_)
  · have hf := (if_neg c44).symm.trans hf
    refine lv_iconst (v := 0) hx hb dX1_read_24 (by decide) ?_
    exact K25  (false) S41 H locs ls hP hS (lv_sub hl [0, 1] rfl) hf
  · have hf := (if_pos c44).symm.trans hf
    refine lv_iconst (v := 1) hx hb dX1_read_20 (by decide) ?_
    refine lv_goto (tgt := 25) hx hb dX1_read_21 (by decide) ?_
    exact K25  (true) S41 H locs ls hP hS (lv_sub hl [0, 1] rfl) hf

def fX3_append (p1 : Int32) (S : XS) : Option XS := (if (bi (fX3_isFull  S)) = 0 then (bnd (xiW S 4 ((xi S 4) + 1)) (fun S5 => (ob1 (fX3_paragraphAt ((xi S5 4) - 1) S5) (fun r6 => (ob1 (fX1_read r6 p1 S5) (fun S9 => (some S9))))))) else (some S))
set_option maxHeartbeats 4000000 in
set_option maxRecDepth 100000 in
theorem okX3_append (l : Launch) (D : va_G) (cy : Nat → ClassId) (ad : Nat → Nat) (A : Nat → Prop) (hD : ∀ S, va_D A (wX cy ad S)) (p1 : Int32) (S : XS) (S' : XS) (hf : fX3_append p1 S = some S') : MV l yX3_append wsX3_append { frames := 5, cells := 0, slots := 0, locals := 112 } D cy A (wX cy ad S) [.ref (ad 5), .ref (ad 3), .int p1] (wX cy ad S') := by
  refine Met.ofW (cc := cX3_append) (maxL := 3) (ret := none) (by decide) rfl ?_
  intro p e s m args below meth c s₁ B hml hv
  obtain ⟨ha, hP, hK⟩ := hv
  have hx := B.exec
  have hb := B.bytes
  have hr := B.returns
  have hts := atoms_spec (ws := wsX3_append) B.pre
  have hown : s.vm.findClass RX3 = some m.cls := findClass_of_methodNamed B.named
  have hlocks := B.notSynchronized
  have hS : va_S A s.heap s.heap [] := va_S.rf
  obtain ⟨ls, hl, he0⟩ := ent (m := m) ha (n := 3) (Nat.le_of_ble_eq_true rfl)
  refine W.eq he0 ?_
  have hl : lv_has ls 3 [(0, .ref (ad 5)), (1, .ref (ad 3)), (2, .int p1)] := hl
  unfold fX3_append at hf
  suffices hG : ∀ (H : Heap) (locs : List Loc), va_P D vwCl (wX cy ad S) H → va_S A s.heap H locs → W p l e (headSpec wsX3_append { frames := 5, cells := 0, slots := 0, locals := 112 }).room s m args below meth c H locs 0 0 (MQ below (QcV D A (wX cy ad S')) args s 0 0 A) (F0 m 0 ls []) by exact hG s.heap [] hP va_S.rf
  clear hP hS
  intro H locs hP hS
  refine lv_aload_n hx hb dX3_append_0 rfl (lv_at hl 0 rfl) ?_
  refine kVi (As := []) (rest := []) ⟨hx, hb, hml, hown, hts⟩ (okX3_isFull l D cy ad A hD  S _ rfl) (cwV 0 hts gX3_append_X3_isFull rfl rfl rfl (by decide +kernel) ⟨Nat.le_of_ble_eq_true rfl, Nat.le_of_ble_eq_true rfl⟩) hK hP hS (va_recv hK.1 hP (ci := 3) (q := (RX3, TX3, 3)) rfl (atX5 cy ad S)) rfl hl.1 rfl (Nat.le_of_ble_eq_true rfl) dX3_append_1 (fun H locs hP hS => ?_)
  refine lv_if_ne (tgt := 32) hx hb dX3_append_4 (by decide) (fun c4 => ?_) (fun c4 => ?_)
  · have hf := (if_neg c4).symm.trans hf
    cases hf
    exact rV hx hb hr hP hS hlocks dX3_append_32
  · have hf := (if_pos c4).symm.trans hf
    refine lv_aload_n hx hb dX3_append_7 rfl (lv_at hl 0 rfl) ?_
    refine lv_dup hx hb dX3_append_8 rfl ?_
    refine gfX3_2 hx hb hts (fun _ h => List.mem_cons_of_mem _ (List.mem_append_left _ (List.mem_append_left _ (List.mem_append_right _ h)))) hown hK hP (hts (Cond.fieldLink RX3 22 "WhoSpeaks$Story" "count" "I") (List.mem_of_getElem? (i := 1) rfl)) dX3_append_9 ?_
    refine lv_iconst (v := 1) hx hb dX3_append_12 (by decide) ?_
    refine lv_iadd hx hb dX3_append_13 ?_
    refine pfX3_2 (v := ((xi S 4) + 1)) hx hb hts (fun _ h => List.mem_cons_of_mem _ (List.mem_append_left _ (List.mem_append_left _ (List.mem_append_right _ h)))) hown hK hP hD hS (hts (Cond.fieldLink RX3 22 "WhoSpeaks$Story" "count" "I") (List.mem_of_getElem? (i := 1) rfl)) dX3_append_14 (fun S5 eS5 H locs hP hS => ?_)
    have hf := bnd_of eS5 hf
    refine lv_aload_n hx hb dX3_append_17 rfl (lv_at hl 0 rfl) ?_
    refine lv_aload_n hx hb dX3_append_18 rfl (lv_at hl 0 rfl) ?_
    refine gfX3_2 hx hb hts (fun _ h => List.mem_cons_of_mem _ (List.mem_append_left _ (List.mem_append_left _ (List.mem_append_right _ h)))) hown hK hP (hts (Cond.fieldLink RX3 22 "WhoSpeaks$Story" "count" "I") (List.mem_of_getElem? (i := 1) rfl)) dX3_append_19 ?_
    refine lv_iconst (v := 1) hx hb dX3_append_22 (by decide) ?_
    refine lv_isub hx hb dX3_append_23 ?_
    obtain ⟨r6, h7, hf⟩ := ob1_some hf
    refine kVr (As := [.int ((xi S5 4) - 1)]) (rest := []) ⟨hx, hb, hml, hown, hts⟩ (okX3_paragraphAt l D cy ad A hD ((xi S5 4) - 1) S5 r6 h7) (cwV 1 hts gX3_append_X3_paragraphAt rfl rfl rfl (by decide +kernel) ⟨Nat.le_of_ble_eq_true rfl, Nat.le_of_ble_eq_true rfl⟩) hK hP hS (va_recv hK.1 hP (ci := 3) (q := (RX3, TX3, 3)) rfl (atX5 cy ad S5)) rfl hl.1 rfl (Nat.le_of_ble_eq_true rfl) dX3_append_24 (fun H locs hP hS => ?_)
    refine lv_aload_n hx hb dX3_append_27 rfl (lv_at hl 1 rfl) ?_
    refine lv_iload_n hx hb dX3_append_28 rfl (lv_at hl 2 rfl) ?_
    obtain ⟨S9, h8, hf⟩ := ob1_some hf
    refine kVv (As := [.ref (ad 3), .int p1]) (rest := []) ⟨hx, hb, hml, hown, hts⟩ (okX1_read l D cy ad A hD r6 p1 S5 S9 h8) (cwV 2 hts gX3_append_X1_read rfl rfl rfl (by decide +kernel) ⟨Nat.le_of_ble_eq_true rfl, Nat.le_of_ble_eq_true rfl⟩) hK hP hS (va_recv hK.1 hP (ci := 1) (q := (RX1, TX1, 14)) rfl (atP0 cy ad S5 r6 (ck_no h8).1)) rfl hl.1 rfl (Nat.le_of_ble_eq_true rfl) dX3_append_29 (fun H locs hP hS => ?_)
    cases hf
    exact rV hx hb hr hP hS hlocks dX3_append_32

def fX5_paragraph  (S : XS) : Option (Int32 × XS) := (if (bi (fX3_isFull  S)) = 0 then (ob1 (fX3_mayGoOn  S) (fun r5 => (ob1 (fX4_firstFault r5 S) (fun r7 => (if r7 = (-9) then (ob1 (fX3_append (xi S 0) S) (fun S11 => (ob1 (fX4_clear  S11) (fun S13 => (some (((fX3_length  S13) - 1), S13)))))) else (some (((-100) - r7), S))))))) else (some ((-4), S)))
set_option maxHeartbeats 4000000 in
set_option maxRecDepth 100000 in
theorem okX5_paragraph (l : Launch) (D : va_G) (cy : Nat → ClassId) (ad : Nat → Nat) (A : Nat → Prop) (hD : ∀ S, va_D A (wX cy ad S))  (S : XS) (r : Int32) (S' : XS) (hf : fX5_paragraph  S = some (r, S')) : MI l yX5_paragraph wsX5_paragraph { frames := 6, cells := 0, slots := 0, locals := 134 } D cy A (wX cy ad S) [.ref (ad 0)] r (wX cy ad S') := by
  refine Met.ofW (cc := cX5_paragraph) (maxL := 2) (ret := (some .int)) (by decide) rfl ?_
  intro p e s m args below meth c s₁ B hml hv
  obtain ⟨ha, hP, hK⟩ := hv
  have hx := B.exec
  have hb := B.bytes
  have hr := B.returns
  have hts := atoms_spec (ws := wsX5_paragraph) B.pre
  have hown : s.vm.findClass RX5 = some m.cls := findClass_of_methodNamed B.named
  have hlocks := B.notSynchronized
  have hS : va_S A s.heap s.heap [] := va_S.rf
  obtain ⟨ls, hl, he0⟩ := ent (m := m) ha (n := 2) (Nat.le_of_ble_eq_true rfl)
  refine W.eq he0 ?_
  have hl : lv_has ls 2 [(0, .ref (ad 0))] := hl
  unfold fX5_paragraph at hf
  suffices hG : ∀ (H : Heap) (locs : List Loc), va_P D vwCl (wX cy ad S) H → va_S A s.heap H locs → W p l e (headSpec wsX5_paragraph { frames := 6, cells := 0, slots := 0, locals := 134 }).room s m args below meth c H locs 0 0 (MQ below (QcI D A r (wX cy ad S')) args s 0 0 A) (F0 m 0 ls []) by exact hG s.heap [] hP va_S.rf
  clear hP hS
  intro H locs hP hS
  refine lv_aload_n hx hb dX5_paragraph_0 rfl (lv_at hl 0 rfl) ?_
  refine gfX5_2 hx hb hts (fun _ h => List.mem_cons_of_mem _ (List.mem_append_left _ (List.mem_append_left _ (List.mem_append_left _ (List.mem_append_left _ (List.mem_append_right _ h)))))) hown hK hP (hts (Cond.fieldLink RX5 26 "WhoSpeaks" "story" "LWhoSpeaks$Story;") (List.mem_of_getElem? (i := 1) rfl)) dX5_paragraph_1 ?_
  refine kVi (As := []) (rest := []) ⟨hx, hb, hml, hown, hts⟩ (okX3_isFull l D cy ad A hD  S _ rfl) (cwV 0 hts gX5_paragraph_X3_isFull rfl rfl rfl (by decide +kernel) ⟨Nat.le_of_ble_eq_true rfl, Nat.le_of_ble_eq_true rfl⟩) hK hP hS (va_recv hK.1 hP (ci := 3) (q := (RX3, TX3, 3)) rfl (atX5 cy ad S)) rfl hl.1 rfl (Nat.le_of_ble_eq_true rfl) dX5_paragraph_4 (fun H locs hP hS => ?_)
  refine lv_if_eq (tgt := 13) hx hb dX5_paragraph_7 (by decide) (fun c4 => ?_) (fun c4 => ?_)
  · have hf := (if_pos c4).symm.trans hf
    refine lv_aload_n hx hb dX5_paragraph_13 rfl (lv_at hl 0 rfl) ?_
    refine gfX5_1 hx hb hts (fun _ h => List.mem_cons_of_mem _ (List.mem_append_left _ (List.mem_append_left _ (List.mem_append_left _ (List.mem_append_left _ (List.mem_append_right _ h)))))) hown hK hP (hts (Cond.fieldLink RX5 19 "WhoSpeaks" "tape" "LWhoSpeaks$Tape;") (List.mem_of_getElem? (i := 2) rfl)) dX5_paragraph_14 ?_
    refine lv_aload_n hx hb dX5_paragraph_17 rfl (lv_at hl 0 rfl) ?_
    refine gfX5_0 hx hb hts (fun _ h => List.mem_cons_of_mem _ (List.mem_append_left _ (List.mem_append_left _ (List.mem_append_left _ (List.mem_append_left _ (List.mem_append_right _ h)))))) hown hK hP (hts (Cond.fieldLink RX5 12 "WhoSpeaks" "people" "LWhoSpeaks$People;") (List.mem_of_getElem? (i := 3) rfl)) dX5_paragraph_18 ?_
    refine lv_aload_n hx hb dX5_paragraph_21 rfl (lv_at hl 0 rfl) ?_
    refine gfX5_2 hx hb hts (fun _ h => List.mem_cons_of_mem _ (List.mem_append_left _ (List.mem_append_left _ (List.mem_append_left _ (List.mem_append_left _ (List.mem_append_right _ h)))))) hown hK hP (hts (Cond.fieldLink RX5 26 "WhoSpeaks" "story" "LWhoSpeaks$Story;") (List.mem_of_getElem? (i := 1) rfl)) dX5_paragraph_22 ?_
    obtain ⟨r5, h6, hf⟩ := ob1_some hf
    refine kVi (As := []) (rest := [.ref (ad 1), .ref (ad 3)]) ⟨hx, hb, hml, hown, hts⟩ (okX3_mayGoOn l D cy ad A hD  S r5 h6) (cwV 0 hts gX5_paragraph_X3_mayGoOn rfl rfl rfl (by decide +kernel) ⟨Nat.le_of_ble_eq_true rfl, Nat.le_of_ble_eq_true rfl⟩) hK hP hS (va_recv hK.1 hP (ci := 3) (q := (RX3, TX3, 3)) rfl (atX5 cy ad S)) rfl hl.1 rfl (Nat.le_of_ble_eq_true rfl) dX5_paragraph_25 (fun H locs hP hS => ?_)
    obtain ⟨r7, h8, hf⟩ := ob1_some hf
    refine kVi (As := [.ref (ad 1), .int (bi r5)]) (rest := []) ⟨hx, hb, hml, hown, hts⟩ (okX4_firstFault l D cy ad A hD r5 S r7 h8) (cwV 2 hts gX5_paragraph_X4_firstFault rfl rfl rfl (by decide +kernel) ⟨Nat.le_of_ble_eq_true rfl, Nat.le_of_ble_eq_true rfl⟩) hK hP hS (va_recv hK.1 hP (ci := 4) (q := (RX4, TX4, 2)) rfl (atX3 cy ad S)) rfl hl.1 rfl (Nat.le_of_ble_eq_true rfl) dX5_paragraph_28 (fun H locs hP hS => ?_)
    refine lv_istore_n (lv' := [(1, .int r7), (0, .ref (ad 0))]) hx hb dX5_paragraph_31 rfl hl (by decide) rfl (fun ls hl => ?_)
    refine lv_iload_n hx hb dX5_paragraph_32 rfl (lv_at hl 0 rfl) ?_
    refine lv_bipush (v := (-9)) hx hb dX5_paragraph_33 (by decide) ?_
    refine lv_icmp_eq (tgt := 43) hx hb dX5_paragraph_35 (by decide) (fun c9 => ?_) (fun c9 => ?_)
    · have hf := (if_pos c9).symm.trans hf
      refine lv_aload_n hx hb dX5_paragraph_43 rfl (lv_at hl 1 rfl) ?_
      refine gfX5_2 hx hb hts (fun _ h => List.mem_cons_of_mem _ (List.mem_append_left _ (List.mem_append_left _ (List.mem_append_left _ (List.mem_append_left _ (List.mem_append_right _ h)))))) hown hK hP (hts (Cond.fieldLink RX5 26 "WhoSpeaks" "story" "LWhoSpeaks$Story;") (List.mem_of_getElem? (i := 1) rfl)) dX5_paragraph_44 ?_
      refine lv_aload_n hx hb dX5_paragraph_47 rfl (lv_at hl 1 rfl) ?_
      refine gfX5_1 hx hb hts (fun _ h => List.mem_cons_of_mem _ (List.mem_append_left _ (List.mem_append_left _ (List.mem_append_left _ (List.mem_append_left _ (List.mem_append_right _ h)))))) hown hK hP (hts (Cond.fieldLink RX5 19 "WhoSpeaks" "tape" "LWhoSpeaks$Tape;") (List.mem_of_getElem? (i := 2) rfl)) dX5_paragraph_48 ?_
      refine lv_aload_n hx hb dX5_paragraph_51 rfl (lv_at hl 1 rfl) ?_
      refine gfX5_7 hx hb hts (fun _ h => List.mem_cons_of_mem _ (List.mem_append_left _ (List.mem_append_left _ (List.mem_append_left _ (List.mem_append_left _ (List.mem_append_right _ h)))))) hown hK hP (hts (Cond.fieldLink RX5 47 "WhoSpeaks" "hereSet" "I") (List.mem_of_getElem? (i := 4) rfl)) dX5_paragraph_52 ?_
      obtain ⟨S11, h10, hf⟩ := ob1_some hf
      refine kVv (As := [.ref (ad 3), .int (xi S 0)]) (rest := []) ⟨hx, hb, hml, hown, hts⟩ (okX3_append l D cy ad A hD (xi S 0) S S11 h10) (cwV 2 hts gX5_paragraph_X3_append rfl rfl rfl (by decide +kernel) ⟨Nat.le_of_ble_eq_true rfl, Nat.le_of_ble_eq_true rfl⟩) hK hP hS (va_recv hK.1 hP (ci := 3) (q := (RX3, TX3, 3)) rfl (atX5 cy ad S)) rfl hl.1 rfl (Nat.le_of_ble_eq_true rfl) dX5_paragraph_55 (fun H locs hP hS => ?_)
      refine lv_aload_n hx hb dX5_paragraph_58 rfl (lv_at hl 1 rfl) ?_
      refine gfX5_1 hx hb hts (fun _ h => List.mem_cons_of_mem _ (List.mem_append_left _ (List.mem_append_left _ (List.mem_append_left _ (List.mem_append_left _ (List.mem_append_right _ h)))))) hown hK hP (hts (Cond.fieldLink RX5 19 "WhoSpeaks" "tape" "LWhoSpeaks$Tape;") (List.mem_of_getElem? (i := 2) rfl)) dX5_paragraph_59 ?_
      obtain ⟨S13, h12, hf⟩ := ob1_some hf
      refine kVv (As := []) (rest := []) ⟨hx, hb, hml, hown, hts⟩ (okX4_clear l D cy ad A hD  S11 S13 h12) (cwV 0 hts gX5_paragraph_X4_clear rfl rfl rfl (by decide +kernel) ⟨Nat.le_of_ble_eq_true rfl, Nat.le_of_ble_eq_true rfl⟩) hK hP hS (va_recv hK.1 hP (ci := 4) (q := (RX4, TX4, 2)) rfl (atX3 cy ad S11)) rfl hl.1 rfl (Nat.le_of_ble_eq_true rfl) dX5_paragraph_62 (fun H locs hP hS => ?_)
      refine lv_aload_n hx hb dX5_paragraph_65 rfl (lv_at hl 1 rfl) ?_
      refine gfX5_2 hx hb hts (fun _ h => List.mem_cons_of_mem _ (List.mem_append_left _ (List.mem_append_left _ (List.mem_append_left _ (List.mem_append_left _ (List.mem_append_right _ h)))))) hown hK hP (hts (Cond.fieldLink RX5 26 "WhoSpeaks" "story" "LWhoSpeaks$Story;") (List.mem_of_getElem? (i := 1) rfl)) dX5_paragraph_66 ?_
      refine kVi (As := []) (rest := []) ⟨hx, hb, hml, hown, hts⟩ (okX3_length l D cy ad A hD  S13 _ rfl) (cwV 0 hts gX5_paragraph_X3_length rfl rfl rfl (by decide +kernel) ⟨Nat.le_of_ble_eq_true rfl, Nat.le_of_ble_eq_true rfl⟩) hK hP hS (va_recv hK.1 hP (ci := 3) (q := (RX3, TX3, 3)) rfl (atX5 cy ad S13)) rfl hl.1 rfl (Nat.le_of_ble_eq_true rfl) dX5_paragraph_69 (fun H locs hP hS => ?_)
      refine lv_iconst (v := 1) hx hb dX5_paragraph_72 (by decide) ?_
      refine lv_isub hx hb dX5_paragraph_73 ?_
      obtain ⟨he, hS9⟩ := Prod.mk.inj (Option.some.inj hf)
      subst hS9
      exact rI hx hb hr hP hS he hlocks dX5_paragraph_74
    · have hf := (if_neg c9).symm.trans hf
      refine lv_bipush (v := (-100)) hx hb dX5_paragraph_38 (by decide) ?_
      refine lv_iload_n hx hb dX5_paragraph_40 rfl (lv_at hl 0 rfl) ?_
      refine lv_isub hx hb dX5_paragraph_41 ?_
      obtain ⟨he, hS9⟩ := Prod.mk.inj (Option.some.inj hf)
      subst hS9
      exact rI hx hb hr hP hS he hlocks dX5_paragraph_42
  · have hf := (if_neg c4).symm.trans hf
    refine lv_bipush (v := (-4)) hx hb dX5_paragraph_10 (by decide) ?_
    obtain ⟨he, hS9⟩ := Prod.mk.inj (Option.some.inj hf)
    subst hS9
    exact rI hx hb hr hP hS he hlocks dX5_paragraph_12

def fX3_dropLast  (S : XS) : Option XS := (if (xi S 4) ≤ 0 then (some S) else (bnd (xiW S 4 ((xi S 4) - 1)) (fun S4 => (some S4))))
set_option maxHeartbeats 4000000 in
set_option maxRecDepth 100000 in
theorem okX3_dropLast (l : Launch) (D : va_G) (cy : Nat → ClassId) (ad : Nat → Nat) (A : Nat → Prop) (hD : ∀ S, va_D A (wX cy ad S))  (S : XS) (S' : XS) (hf : fX3_dropLast  S = some S') : MV l yX3_dropLast wsX3_dropLast { frames := 0, cells := 0, slots := 0, locals := 0 } D cy A (wX cy ad S) [.ref (ad 5)] (wX cy ad S') := by
  refine Met.ofW (cc := cX3_dropLast) (maxL := 1) (ret := none) (by decide) rfl ?_
  intro p e s m args below meth c s₁ B hml hv
  obtain ⟨ha, hP, hK⟩ := hv
  have hx := B.exec
  have hb := B.bytes
  have hr := B.returns
  have hts := atoms_spec (ws := wsX3_dropLast) B.pre
  have hown : s.vm.findClass RX3 = some m.cls := findClass_of_methodNamed B.named
  have hlocks := B.notSynchronized
  have hS : va_S A s.heap s.heap [] := va_S.rf
  obtain ⟨ls, hl, he0⟩ := ent (m := m) ha (n := 1) (Nat.le_of_ble_eq_true rfl)
  refine W.eq he0 ?_
  have hl : lv_has ls 1 [(0, .ref (ad 5))] := hl
  unfold fX3_dropLast at hf
  suffices hG : ∀ (H : Heap) (locs : List Loc), va_P D vwCl (wX cy ad S) H → va_S A s.heap H locs → W p l e (headSpec wsX3_dropLast { frames := 0, cells := 0, slots := 0, locals := 0 }).room s m args below meth c H locs 0 0 (MQ below (QcV D A (wX cy ad S')) args s 0 0 A) (F0 m 0 ls []) by exact hG s.heap [] hP va_S.rf
  clear hP hS
  intro H locs hP hS
  refine lv_aload_n hx hb dX3_dropLast_0 rfl (lv_at hl 0 rfl) ?_
  refine gfX3_2 hx hb hts (fun _ h => List.mem_cons_of_mem _ (List.mem_append_right _ h)) hown hK hP (hts (Cond.fieldLink RX3 22 "WhoSpeaks$Story" "count" "I") (List.mem_of_getElem? (i := 1) rfl)) dX3_dropLast_1 ?_
  refine lv_if_le (tgt := 17) hx hb dX3_dropLast_4 (by decide) (fun c3 => ?_) (fun c3 => ?_)
  · have hf := (if_pos c3).symm.trans hf
    cases hf
    exact rV hx hb hr hP hS hlocks dX3_dropLast_17
  · have hf := (if_neg c3).symm.trans hf
    refine lv_aload_n hx hb dX3_dropLast_7 rfl (lv_at hl 0 rfl) ?_
    refine lv_dup hx hb dX3_dropLast_8 rfl ?_
    refine gfX3_2 hx hb hts (fun _ h => List.mem_cons_of_mem _ (List.mem_append_right _ h)) hown hK hP (hts (Cond.fieldLink RX3 22 "WhoSpeaks$Story" "count" "I") (List.mem_of_getElem? (i := 1) rfl)) dX3_dropLast_9 ?_
    refine lv_iconst (v := 1) hx hb dX3_dropLast_12 (by decide) ?_
    refine lv_isub hx hb dX3_dropLast_13 ?_
    refine pfX3_2 (v := ((xi S 4) - 1)) hx hb hts (fun _ h => List.mem_cons_of_mem _ (List.mem_append_right _ h)) hown hK hP hD hS (hts (Cond.fieldLink RX3 22 "WhoSpeaks$Story" "count" "I") (List.mem_of_getElem? (i := 1) rfl)) dX3_dropLast_14 (fun S4 eS4 H locs hP hS => ?_)
    have hf := bnd_of eS4 hf
    cases hf
    exact rV hx hb hr hP hS hlocks dX3_dropLast_17

def fX5_cut  (S : XS) : Option (Int32 × XS) := (if (fX3_length  S) = 0 then (some ((-3), S)) else (ob1 (fX3_dropLast  S) (fun S5 => (some ((fX3_length  S5), S5)))))
set_option maxHeartbeats 4000000 in
set_option maxRecDepth 100000 in
theorem okX5_cut (l : Launch) (D : va_G) (cy : Nat → ClassId) (ad : Nat → Nat) (A : Nat → Prop) (hD : ∀ S, va_D A (wX cy ad S))  (S : XS) (r : Int32) (S' : XS) (hf : fX5_cut  S = some (r, S')) : MI l yX5_cut wsX5_cut { frames := 1, cells := 0, slots := 0, locals := 20 } D cy A (wX cy ad S) [.ref (ad 0)] r (wX cy ad S') := by
  refine Met.ofW (cc := cX5_cut) (maxL := 1) (ret := (some .int)) (by decide) rfl ?_
  intro p e s m args below meth c s₁ B hml hv
  obtain ⟨ha, hP, hK⟩ := hv
  have hx := B.exec
  have hb := B.bytes
  have hr := B.returns
  have hts := atoms_spec (ws := wsX5_cut) B.pre
  have hown : s.vm.findClass RX5 = some m.cls := findClass_of_methodNamed B.named
  have hlocks := B.notSynchronized
  have hS : va_S A s.heap s.heap [] := va_S.rf
  obtain ⟨ls, hl, he0⟩ := ent (m := m) ha (n := 1) (Nat.le_of_ble_eq_true rfl)
  refine W.eq he0 ?_
  have hl : lv_has ls 1 [(0, .ref (ad 0))] := hl
  unfold fX5_cut at hf
  suffices hG : ∀ (H : Heap) (locs : List Loc), va_P D vwCl (wX cy ad S) H → va_S A s.heap H locs → W p l e (headSpec wsX5_cut { frames := 1, cells := 0, slots := 0, locals := 20 }).room s m args below meth c H locs 0 0 (MQ below (QcI D A r (wX cy ad S')) args s 0 0 A) (F0 m 0 ls []) by exact hG s.heap [] hP va_S.rf
  clear hP hS
  intro H locs hP hS
  refine lv_aload_n hx hb dX5_cut_0 rfl (lv_at hl 0 rfl) ?_
  refine gfX5_2 hx hb hts (fun _ h => List.mem_cons_of_mem _ (List.mem_append_left _ (List.mem_append_right _ h))) hown hK hP (hts (Cond.fieldLink RX5 26 "WhoSpeaks" "story" "LWhoSpeaks$Story;") (List.mem_of_getElem? (i := 1) rfl)) dX5_cut_1 ?_
  refine kVi (As := []) (rest := []) ⟨hx, hb, hml, hown, hts⟩ (okX3_length l D cy ad A hD  S _ rfl) (cwV 0 hts gX5_cut_X3_length rfl rfl rfl (by decide +kernel) ⟨Nat.le_of_ble_eq_true rfl, Nat.le_of_ble_eq_true rfl⟩) hK hP hS (va_recv hK.1 hP (ci := 3) (q := (RX3, TX3, 3)) rfl (atX5 cy ad S)) rfl hl.1 rfl (Nat.le_of_ble_eq_true rfl) dX5_cut_4 (fun H locs hP hS => ?_)
  refine lv_if_ne (tgt := 13) hx hb dX5_cut_7 (by decide) (fun c3 => ?_) (fun c3 => ?_)
  · have hf := (if_neg c3).symm.trans hf
    refine lv_aload_n hx hb dX5_cut_13 rfl (lv_at hl 0 rfl) ?_
    refine gfX5_2 hx hb hts (fun _ h => List.mem_cons_of_mem _ (List.mem_append_left _ (List.mem_append_right _ h))) hown hK hP (hts (Cond.fieldLink RX5 26 "WhoSpeaks" "story" "LWhoSpeaks$Story;") (List.mem_of_getElem? (i := 1) rfl)) dX5_cut_14 ?_
    obtain ⟨S5, h4, hf⟩ := ob1_some hf
    refine kVv (As := []) (rest := []) ⟨hx, hb, hml, hown, hts⟩ (okX3_dropLast l D cy ad A hD  S S5 h4) (cwV 0 hts gX5_cut_X3_dropLast rfl rfl rfl (by decide +kernel) ⟨Nat.le_of_ble_eq_true rfl, Nat.le_of_ble_eq_true rfl⟩) hK hP hS (va_recv hK.1 hP (ci := 3) (q := (RX3, TX3, 3)) rfl (atX5 cy ad S)) rfl hl.1 rfl (Nat.le_of_ble_eq_true rfl) dX5_cut_17 (fun H locs hP hS => ?_)
    refine lv_aload_n hx hb dX5_cut_20 rfl (lv_at hl 0 rfl) ?_
    refine gfX5_2 hx hb hts (fun _ h => List.mem_cons_of_mem _ (List.mem_append_left _ (List.mem_append_right _ h))) hown hK hP (hts (Cond.fieldLink RX5 26 "WhoSpeaks" "story" "LWhoSpeaks$Story;") (List.mem_of_getElem? (i := 1) rfl)) dX5_cut_21 ?_
    refine kVi (As := []) (rest := []) ⟨hx, hb, hml, hown, hts⟩ (okX3_length l D cy ad A hD  S5 _ rfl) (cwV 0 hts gX5_cut_X3_length rfl rfl rfl (by decide +kernel) ⟨Nat.le_of_ble_eq_true rfl, Nat.le_of_ble_eq_true rfl⟩) hK hP hS (va_recv hK.1 hP (ci := 3) (q := (RX3, TX3, 3)) rfl (atX5 cy ad S5)) rfl hl.1 rfl (Nat.le_of_ble_eq_true rfl) dX5_cut_24 (fun H locs hP hS => ?_)
    obtain ⟨he, hS9⟩ := Prod.mk.inj (Option.some.inj hf)
    subst hS9
    exact rI hx hb hr hP hS he hlocks dX5_cut_27
  · have hf := (if_pos c3).symm.trans hf
    refine lv_bipush (v := (-3)) hx hb dX5_cut_10 (by decide) ?_
    obtain ⟨he, hS9⟩ := Prod.mk.inj (Option.some.inj hf)
    subst hS9
    exact rI hx hb hr hP hS he hlocks dX5_cut_12

def fX1_length (i : Nat) (S : XS) : Option Int32 := (if i < 17 then (some (xp S i 2)) else none)
set_option maxHeartbeats 4000000 in
set_option maxRecDepth 100000 in
theorem okX1_length (l : Launch) (D : va_G) (cy : Nat → ClassId) (ad : Nat → Nat) (A : Nat → Prop) (hD : ∀ S, va_D A (wX cy ad S)) (i : Nat) (S : XS) (r : Int32) (hf : fX1_length i S = some r) : MI l yX1_length wsX1_length { frames := 0, cells := 0, slots := 0, locals := 0 } D cy A (wX cy ad S) [.ref (ad (19 + 3 * i))] r (wX cy ad S) := by
  refine Met.ofW (cc := cX1_length) (maxL := 1) (ret := (some .int)) (by decide) rfl ?_
  intro p e s m args below meth c s₁ B hml hv
  obtain ⟨ha, hP, hK⟩ := hv
  have hx := B.exec
  have hb := B.bytes
  have hr := B.returns
  have hts := atoms_spec (ws := wsX1_length) B.pre
  have hown : s.vm.findClass RX1 = some m.cls := findClass_of_methodNamed B.named
  have hlocks := B.notSynchronized
  have hS : va_S A s.heap s.heap [] := va_S.rf
  obtain ⟨ls, hl, he0⟩ := ent (m := m) ha (n := 1) (Nat.le_of_ble_eq_true rfl)
  refine W.eq he0 ?_
  unfold fX1_length at hf
  obtain ⟨hi, hf⟩ := ck_no hf
  have hl : lv_has ls 1 [(0, .ref (ad (19 + 3 * i)))] := hl
  skip
  suffices hG : ∀ (H : Heap) (locs : List Loc), va_P D vwCl (wX cy ad S) H → va_S A s.heap H locs → W p l e (headSpec wsX1_length { frames := 0, cells := 0, slots := 0, locals := 0 }).room s m args below meth c H locs 0 0 (MQ below (QcI D A r (wX cy ad S)) args s 0 0 A) (F0 m 0 ls []) by exact hG s.heap [] hP va_S.rf
  clear hP hS
  intro H locs hP hS
  refine lv_aload_n hx hb dX1_length_0 rfl (lv_at hl 0 rfl) ?_
  refine gfX1_2 hi hx hb hts (fun _ h => List.mem_cons_of_mem _ (List.mem_append_right _ h)) hown hK hP (hts (Cond.fieldLink RX1 21 "WhoSpeaks$Paragraph" "count" "I") (List.mem_of_getElem? (i := 1) rfl)) dX1_length_1 ?_
  have he := Option.some.inj hf
  exact rI hx hb hr hP hS he hlocks dX1_length_4

def fX1_quotes (i : Nat) (S : XS) : Option Int32 := (if i < 17 then (some (xp S i 6)) else none)
set_option maxHeartbeats 4000000 in
set_option maxRecDepth 100000 in
theorem okX1_quotes (l : Launch) (D : va_G) (cy : Nat → ClassId) (ad : Nat → Nat) (A : Nat → Prop) (hD : ∀ S, va_D A (wX cy ad S)) (i : Nat) (S : XS) (r : Int32) (hf : fX1_quotes i S = some r) : MI l yX1_quotes wsX1_quotes { frames := 0, cells := 0, slots := 0, locals := 0 } D cy A (wX cy ad S) [.ref (ad (19 + 3 * i))] r (wX cy ad S) := by
  refine Met.ofW (cc := cX1_quotes) (maxL := 1) (ret := (some .int)) (by decide) rfl ?_
  intro p e s m args below meth c s₁ B hml hv
  obtain ⟨ha, hP, hK⟩ := hv
  have hx := B.exec
  have hb := B.bytes
  have hr := B.returns
  have hts := atoms_spec (ws := wsX1_quotes) B.pre
  have hown : s.vm.findClass RX1 = some m.cls := findClass_of_methodNamed B.named
  have hlocks := B.notSynchronized
  have hS : va_S A s.heap s.heap [] := va_S.rf
  obtain ⟨ls, hl, he0⟩ := ent (m := m) ha (n := 1) (Nat.le_of_ble_eq_true rfl)
  refine W.eq he0 ?_
  unfold fX1_quotes at hf
  obtain ⟨hi, hf⟩ := ck_no hf
  have hl : lv_has ls 1 [(0, .ref (ad (19 + 3 * i)))] := hl
  skip
  suffices hG : ∀ (H : Heap) (locs : List Loc), va_P D vwCl (wX cy ad S) H → va_S A s.heap H locs → W p l e (headSpec wsX1_quotes { frames := 0, cells := 0, slots := 0, locals := 0 }).room s m args below meth c H locs 0 0 (MQ below (QcI D A r (wX cy ad S)) args s 0 0 A) (F0 m 0 ls []) by exact hG s.heap [] hP va_S.rf
  clear hP hS
  intro H locs hP hS
  refine lv_aload_n hx hb dX1_quotes_0 rfl (lv_at hl 0 rfl) ?_
  refine gfX1_6 hi hx hb hts (fun _ h => List.mem_cons_of_mem _ (List.mem_append_right _ h)) hown hK hP (hts (Cond.fieldLink RX1 35 "WhoSpeaks$Paragraph" "quoteCount" "I") (List.mem_of_getElem? (i := 1) rfl)) dX1_quotes_1 ?_
  have he := Option.some.inj hf
  exact rI hx hb hr hP hS he hlocks dX1_quotes_4

def fX1_hereThen (i : Nat) (S : XS) : Option Int32 := (if i < 17 then (some (xp S i 4)) else none)
set_option maxHeartbeats 4000000 in
set_option maxRecDepth 100000 in
theorem okX1_hereThen (l : Launch) (D : va_G) (cy : Nat → ClassId) (ad : Nat → Nat) (A : Nat → Prop) (hD : ∀ S, va_D A (wX cy ad S)) (i : Nat) (S : XS) (r : Int32) (hf : fX1_hereThen i S = some r) : MI l yX1_hereThen wsX1_hereThen { frames := 0, cells := 0, slots := 0, locals := 0 } D cy A (wX cy ad S) [.ref (ad (19 + 3 * i))] r (wX cy ad S) := by
  refine Met.ofW (cc := cX1_hereThen) (maxL := 1) (ret := (some .int)) (by decide) rfl ?_
  intro p e s m args below meth c s₁ B hml hv
  obtain ⟨ha, hP, hK⟩ := hv
  have hx := B.exec
  have hb := B.bytes
  have hr := B.returns
  have hts := atoms_spec (ws := wsX1_hereThen) B.pre
  have hown : s.vm.findClass RX1 = some m.cls := findClass_of_methodNamed B.named
  have hlocks := B.notSynchronized
  have hS : va_S A s.heap s.heap [] := va_S.rf
  obtain ⟨ls, hl, he0⟩ := ent (m := m) ha (n := 1) (Nat.le_of_ble_eq_true rfl)
  refine W.eq he0 ?_
  unfold fX1_hereThen at hf
  obtain ⟨hi, hf⟩ := ck_no hf
  have hl : lv_has ls 1 [(0, .ref (ad (19 + 3 * i)))] := hl
  skip
  suffices hG : ∀ (H : Heap) (locs : List Loc), va_P D vwCl (wX cy ad S) H → va_S A s.heap H locs → W p l e (headSpec wsX1_hereThen { frames := 0, cells := 0, slots := 0, locals := 0 }).room s m args below meth c H locs 0 0 (MQ below (QcI D A r (wX cy ad S)) args s 0 0 A) (F0 m 0 ls []) by exact hG s.heap [] hP va_S.rf
  clear hP hS
  intro H locs hP hS
  refine lv_aload_n hx hb dX1_hereThen_0 rfl (lv_at hl 0 rfl) ?_
  refine gfX1_4 hi hx hb hts (fun _ h => List.mem_cons_of_mem _ (List.mem_append_right _ h)) hown hK hP (hts (Cond.fieldLink RX1 29 "WhoSpeaks$Paragraph" "here" "I") (List.mem_of_getElem? (i := 1) rfl)) dX1_hereThen_1 ?_
  have he := Option.some.inj hf
  exact rI hx hb hr hP hS he hlocks dX1_hereThen_4

def fX1_countingVerbs (i : Nat) (S : XS) : Option Int32 := (if i < 17 then (some (xp S i 9)) else none)
set_option maxHeartbeats 4000000 in
set_option maxRecDepth 100000 in
theorem okX1_countingVerbs (l : Launch) (D : va_G) (cy : Nat → ClassId) (ad : Nat → Nat) (A : Nat → Prop) (hD : ∀ S, va_D A (wX cy ad S)) (i : Nat) (S : XS) (r : Int32) (hf : fX1_countingVerbs i S = some r) : MI l yX1_countingVerbs wsX1_countingVerbs { frames := 0, cells := 0, slots := 0, locals := 0 } D cy A (wX cy ad S) [.ref (ad (19 + 3 * i))] r (wX cy ad S) := by
  refine Met.ofW (cc := cX1_countingVerbs) (maxL := 1) (ret := (some .int)) (by decide) rfl ?_
  intro p e s m args below meth c s₁ B hml hv
  obtain ⟨ha, hP, hK⟩ := hv
  have hx := B.exec
  have hb := B.bytes
  have hr := B.returns
  have hts := atoms_spec (ws := wsX1_countingVerbs) B.pre
  have hown : s.vm.findClass RX1 = some m.cls := findClass_of_methodNamed B.named
  have hlocks := B.notSynchronized
  have hS : va_S A s.heap s.heap [] := va_S.rf
  obtain ⟨ls, hl, he0⟩ := ent (m := m) ha (n := 1) (Nat.le_of_ble_eq_true rfl)
  refine W.eq he0 ?_
  unfold fX1_countingVerbs at hf
  obtain ⟨hi, hf⟩ := ck_no hf
  have hl : lv_has ls 1 [(0, .ref (ad (19 + 3 * i)))] := hl
  skip
  suffices hG : ∀ (H : Heap) (locs : List Loc), va_P D vwCl (wX cy ad S) H → va_S A s.heap H locs → W p l e (headSpec wsX1_countingVerbs { frames := 0, cells := 0, slots := 0, locals := 0 }).room s m args below meth c H locs 0 0 (MQ below (QcI D A r (wX cy ad S)) args s 0 0 A) (F0 m 0 ls []) by exact hG s.heap [] hP va_S.rf
  clear hP hS
  intro H locs hP hS
  refine lv_aload_n hx hb dX1_countingVerbs_0 rfl (lv_at hl 0 rfl) ?_
  refine gfX1_9 hi hx hb hts (fun _ h => List.mem_cons_of_mem _ (List.mem_append_right _ h)) hown hK hP (hts (Cond.fieldLink RX1 44 "WhoSpeaks$Paragraph" "verbCount" "I") (List.mem_of_getElem? (i := 1) rfl)) dX1_countingVerbs_1 ?_
  have he := Option.some.inj hf
  exact rI hx hb hr hP hS he hlocks dX1_countingVerbs_4

def fX1_hintSet (i : Nat) (S : XS) : Option Int32 := (if i < 17 then (some (xp S i 5)) else none)
set_option maxHeartbeats 4000000 in
set_option maxRecDepth 100000 in
theorem okX1_hintSet (l : Launch) (D : va_G) (cy : Nat → ClassId) (ad : Nat → Nat) (A : Nat → Prop) (hD : ∀ S, va_D A (wX cy ad S)) (i : Nat) (S : XS) (r : Int32) (hf : fX1_hintSet i S = some r) : MI l yX1_hintSet wsX1_hintSet { frames := 0, cells := 0, slots := 0, locals := 0 } D cy A (wX cy ad S) [.ref (ad (19 + 3 * i))] r (wX cy ad S) := by
  refine Met.ofW (cc := cX1_hintSet) (maxL := 1) (ret := (some .int)) (by decide) rfl ?_
  intro p e s m args below meth c s₁ B hml hv
  obtain ⟨ha, hP, hK⟩ := hv
  have hx := B.exec
  have hb := B.bytes
  have hr := B.returns
  have hts := atoms_spec (ws := wsX1_hintSet) B.pre
  have hown : s.vm.findClass RX1 = some m.cls := findClass_of_methodNamed B.named
  have hlocks := B.notSynchronized
  have hS : va_S A s.heap s.heap [] := va_S.rf
  obtain ⟨ls, hl, he0⟩ := ent (m := m) ha (n := 1) (Nat.le_of_ble_eq_true rfl)
  refine W.eq he0 ?_
  unfold fX1_hintSet at hf
  obtain ⟨hi, hf⟩ := ck_no hf
  have hl : lv_has ls 1 [(0, .ref (ad (19 + 3 * i)))] := hl
  skip
  suffices hG : ∀ (H : Heap) (locs : List Loc), va_P D vwCl (wX cy ad S) H → va_S A s.heap H locs → W p l e (headSpec wsX1_hintSet { frames := 0, cells := 0, slots := 0, locals := 0 }).room s m args below meth c H locs 0 0 (MQ below (QcI D A r (wX cy ad S)) args s 0 0 A) (F0 m 0 ls []) by exact hG s.heap [] hP va_S.rf
  clear hP hS
  intro H locs hP hS
  refine lv_aload_n hx hb dX1_hintSet_0 rfl (lv_at hl 0 rfl) ?_
  refine gfX1_5 hi hx hb hts (fun _ h => List.mem_cons_of_mem _ (List.mem_append_right _ h)) hown hK hP (hts (Cond.fieldLink RX1 32 "WhoSpeaks$Paragraph" "hint" "I") (List.mem_of_getElem? (i := 1) rfl)) dX1_hintSet_1 ?_
  have he := Option.some.inj hf
  exact rI hx hb hr hP hS he hlocks dX1_hintSet_4

def fX5_ofParagraph (p0 : Int32) (p1 : Int32) (S : XS) : Option Int32 := (if (bi (fX3_holds p0 S)) = 0 then (some (-1)) else (ob1 (fX3_paragraphAt p0 S) (fun r5 => (if p1 = 0 then (ob1 (fX1_length r5 S) (fun r8 => (some r8))) else (if p1 = 1 then (ob1 (fX1_quotes r5 S) (fun r11 => (some r11))) else (if p1 = 2 then (ob1 (fX1_goesOn r5 S) (fun r14 => (if (bi r14) = 0 then (some 0) else (some 1)))) else (if p1 = 3 then (ob1 (fX1_hereThen r5 S) (fun r18 => (some r18))) else (if p1 = 4 then (ob1 (fX1_countingVerbs r5 S) (fun r21 => (some r21))) else (if p1 = 5 then (ob1 (fX1_hintSet r5 S) (fun r24 => (some r24))) else (some (-2)))))))))))
set_option maxHeartbeats 4000000 in
set_option maxRecDepth 100000 in
theorem okX5_ofParagraph (l : Launch) (D : va_G) (cy : Nat → ClassId) (ad : Nat → Nat) (A : Nat → Prop) (hD : ∀ S, va_D A (wX cy ad S)) (p0 : Int32) (p1 : Int32) (S : XS) (r : Int32) (hf : fX5_ofParagraph p0 p1 S = some r) : MI l yX5_ofParagraph wsX5_ofParagraph { frames := 2, cells := 0, slots := 0, locals := 42 } D cy A (wX cy ad S) [.ref (ad 0), .int p0, .int p1] r (wX cy ad S) := by
  refine Met.ofW (cc := cX5_ofParagraph) (maxL := 4) (ret := (some .int)) (by decide) rfl ?_
  intro p e s m args below meth c s₁ B hml hv
  obtain ⟨ha, hP, hK⟩ := hv
  have hx := B.exec
  have hb := B.bytes
  have hr := B.returns
  have hts := atoms_spec (ws := wsX5_ofParagraph) B.pre
  have hown : s.vm.findClass RX5 = some m.cls := findClass_of_methodNamed B.named
  have hlocks := B.notSynchronized
  have hS : va_S A s.heap s.heap [] := va_S.rf
  obtain ⟨ls, hl, he0⟩ := ent (m := m) ha (n := 4) (Nat.le_of_ble_eq_true rfl)
  refine W.eq he0 ?_
  have hl : lv_has ls 4 [(0, .ref (ad 0)), (1, .int p0), (2, .int p1)] := hl
  unfold fX5_ofParagraph at hf
  suffices hG : ∀ (H : Heap) (locs : List Loc), va_P D vwCl (wX cy ad S) H → va_S A s.heap H locs → W p l e (headSpec wsX5_ofParagraph { frames := 2, cells := 0, slots := 0, locals := 42 }).room s m args below meth c H locs 0 0 (MQ below (QcI D A r (wX cy ad S)) args s 0 0 A) (F0 m 0 ls []) by exact hG s.heap [] hP va_S.rf
  clear hP hS
  intro H locs hP hS
  refine lv_aload_n hx hb dX5_ofParagraph_0 rfl (lv_at hl 0 rfl) ?_
  refine gfX5_2 hx hb hts (fun _ h => List.mem_cons_of_mem _ (List.mem_append_left _ (List.mem_append_left _ (List.mem_append_right _ h)))) hown hK hP (hts (Cond.fieldLink RX5 26 "WhoSpeaks" "story" "LWhoSpeaks$Story;") (List.mem_of_getElem? (i := 1) rfl)) dX5_ofParagraph_1 ?_
  refine lv_iload_n hx hb dX5_ofParagraph_4 rfl (lv_at hl 1 rfl) ?_
  refine kVi (As := [.int p0]) (rest := []) ⟨hx, hb, hml, hown, hts⟩ (okX3_holds l D cy ad A hD p0 S _ rfl) (cwV 1 hts gX5_ofParagraph_X3_holds rfl rfl rfl (by decide +kernel) ⟨Nat.le_of_ble_eq_true rfl, Nat.le_of_ble_eq_true rfl⟩) hK hP hS (va_recv hK.1 hP (ci := 3) (q := (RX3, TX3, 3)) rfl (atX5 cy ad S)) rfl hl.1 rfl (Nat.le_of_ble_eq_true rfl) dX5_ofParagraph_5 (fun H locs hP hS => ?_)
  refine lv_if_ne (tgt := 13) hx hb dX5_ofParagraph_8 (by decide) (fun c4 => ?_) (fun c4 => ?_)
  · have hf := (if_neg c4).symm.trans hf
    refine lv_aload_n hx hb dX5_ofParagraph_13 rfl (lv_at hl 0 rfl) ?_
    refine gfX5_2 hx hb hts (fun _ h => List.mem_cons_of_mem _ (List.mem_append_left _ (List.mem_append_left _ (List.mem_append_right _ h)))) hown hK hP (hts (Cond.fieldLink RX5 26 "WhoSpeaks" "story" "LWhoSpeaks$Story;") (List.mem_of_getElem? (i := 1) rfl)) dX5_ofParagraph_14 ?_
    refine lv_iload_n hx hb dX5_ofParagraph_17 rfl (lv_at hl 1 rfl) ?_
    obtain ⟨r5, h6, hf⟩ := ob1_some hf
    refine kVr (As := [.int p0]) (rest := []) ⟨hx, hb, hml, hown, hts⟩ (okX3_paragraphAt l D cy ad A hD p0 S r5 h6) (cwV 1 hts gX5_ofParagraph_X3_paragraphAt rfl rfl rfl (by decide +kernel) ⟨Nat.le_of_ble_eq_true rfl, Nat.le_of_ble_eq_true rfl⟩) hK hP hS (va_recv hK.1 hP (ci := 3) (q := (RX3, TX3, 3)) rfl (atX5 cy ad S)) rfl hl.1 rfl (Nat.le_of_ble_eq_true rfl) dX5_ofParagraph_18 (fun H locs hP hS => ?_)
    refine lv_astore_n (lv' := [(3, .ref (ad (19 + 3 * r5))), (0, .ref (ad 0)), (1, .int p0), (2, .int p1)]) hx hb dX5_ofParagraph_21 rfl hl (by decide) rfl (fun ls hl => ?_)
    refine lv_iload_n hx hb dX5_ofParagraph_22 rfl (lv_at hl 3 rfl) ?_
    by_cases c7 : p1 = 0
    · have hf := (if_pos c7).symm.trans hf
      refine lv_tableIn (off := 37) (tgt := 60) hx hb dX5_ofParagraph_23 (by rw [c7]; decide) (by rw [c7]; decide) (by rw [c7]; rfl) (by decide) ?_
      refine lv_aload_n hx hb dX5_ofParagraph_60 rfl (lv_at hl 0 rfl) ?_
      obtain ⟨r8, h9, hf⟩ := ob1_some hf
      refine kVi (As := []) (rest := []) ⟨hx, hb, hml, hown, hts⟩ (okX1_length l D cy ad A hD r5 S r8 h9) (cwV 0 hts gX5_ofParagraph_X1_length rfl rfl rfl (by decide +kernel) ⟨Nat.le_of_ble_eq_true rfl, Nat.le_of_ble_eq_true rfl⟩) hK hP hS (va_recv hK.1 hP (ci := 1) (q := (RX1, TX1, 14)) rfl (atP0 cy ad S r5 (ck_no h9).1)) rfl hl.1 rfl (Nat.le_of_ble_eq_true rfl) dX5_ofParagraph_61 (fun H locs hP hS => ?_)
      have he := Option.some.inj hf
      exact rI hx hb hr hP hS he hlocks dX5_ofParagraph_64
    · have hf := (if_neg c7).symm.trans hf
      by_cases c10 : p1 = 1
      · have hf := (if_pos c10).symm.trans hf
        refine lv_tableIn (off := 42) (tgt := 65) hx hb dX5_ofParagraph_23 (by rw [c10]; decide) (by rw [c10]; decide) (by rw [c10]; rfl) (by decide) ?_
        refine lv_aload_n hx hb dX5_ofParagraph_65 rfl (lv_at hl 0 rfl) ?_
        obtain ⟨r11, h12, hf⟩ := ob1_some hf
        refine kVi (As := []) (rest := []) ⟨hx, hb, hml, hown, hts⟩ (okX1_quotes l D cy ad A hD r5 S r11 h12) (cwV 0 hts gX5_ofParagraph_X1_quotes rfl rfl rfl (by decide +kernel) ⟨Nat.le_of_ble_eq_true rfl, Nat.le_of_ble_eq_true rfl⟩) hK hP hS (va_recv hK.1 hP (ci := 1) (q := (RX1, TX1, 14)) rfl (atP0 cy ad S r5 (ck_no h12).1)) rfl hl.1 rfl (Nat.le_of_ble_eq_true rfl) dX5_ofParagraph_66 (fun H locs hP hS => ?_)
        have he := Option.some.inj hf
        exact rI hx hb hr hP hS he hlocks dX5_ofParagraph_69
      · have hf := (if_neg c10).symm.trans hf
        by_cases c13 : p1 = 2
        · have hf := (if_pos c13).symm.trans hf
          refine lv_tableIn (off := 47) (tgt := 70) hx hb dX5_ofParagraph_23 (by rw [c13]; decide) (by rw [c13]; decide) (by rw [c13]; rfl) (by decide) ?_
          refine lv_aload_n hx hb dX5_ofParagraph_70 rfl (lv_at hl 0 rfl) ?_
          obtain ⟨r14, h15, hf⟩ := ob1_some hf
          refine kVi (As := []) (rest := []) ⟨hx, hb, hml, hown, hts⟩ (okX1_goesOn l D cy ad A hD r5 S r14 h15) (cwV 0 hts gX5_ofParagraph_X1_goesOn rfl rfl rfl (by decide +kernel) ⟨Nat.le_of_ble_eq_true rfl, Nat.le_of_ble_eq_true rfl⟩) hK hP hS (va_recv hK.1 hP (ci := 1) (q := (RX1, TX1, 14)) rfl (atP0 cy ad S r5 (ck_no h15).1)) rfl hl.1 rfl (Nat.le_of_ble_eq_true rfl) dX5_ofParagraph_71 (fun H locs hP hS => ?_)
          refine lv_if_eq (tgt := 81) hx hb dX5_ofParagraph_74 (by decide) (fun c16 => ?_) (fun c16 => ?_)
          · have hf := (if_pos c16).symm.trans hf
            refine lv_iconst (v := 0) hx hb dX5_ofParagraph_81 (by decide) ?_
            have he := Option.some.inj hf
            exact rI hx hb hr hP hS he hlocks dX5_ofParagraph_82
          · have hf := (if_neg c16).symm.trans hf
            refine lv_iconst (v := 1) hx hb dX5_ofParagraph_77 (by decide) ?_
            refine lv_goto (tgt := 82) hx hb dX5_ofParagraph_78 (by decide) ?_
            have he := Option.some.inj hf
            exact rI hx hb hr hP hS he hlocks dX5_ofParagraph_82
        · have hf := (if_neg c13).symm.trans hf
          by_cases c17 : p1 = 3
          · have hf := (if_pos c17).symm.trans hf
            refine lv_tableIn (off := 60) (tgt := 83) hx hb dX5_ofParagraph_23 (by rw [c17]; decide) (by rw [c17]; decide) (by rw [c17]; rfl) (by decide) ?_
            refine lv_aload_n hx hb dX5_ofParagraph_83 rfl (lv_at hl 0 rfl) ?_
            obtain ⟨r18, h19, hf⟩ := ob1_some hf
            refine kVi (As := []) (rest := []) ⟨hx, hb, hml, hown, hts⟩ (okX1_hereThen l D cy ad A hD r5 S r18 h19) (cwV 0 hts gX5_ofParagraph_X1_hereThen rfl rfl rfl (by decide +kernel) ⟨Nat.le_of_ble_eq_true rfl, Nat.le_of_ble_eq_true rfl⟩) hK hP hS (va_recv hK.1 hP (ci := 1) (q := (RX1, TX1, 14)) rfl (atP0 cy ad S r5 (ck_no h19).1)) rfl hl.1 rfl (Nat.le_of_ble_eq_true rfl) dX5_ofParagraph_84 (fun H locs hP hS => ?_)
            have he := Option.some.inj hf
            exact rI hx hb hr hP hS he hlocks dX5_ofParagraph_87
          · have hf := (if_neg c17).symm.trans hf
            by_cases c20 : p1 = 4
            · have hf := (if_pos c20).symm.trans hf
              refine lv_tableIn (off := 65) (tgt := 88) hx hb dX5_ofParagraph_23 (by rw [c20]; decide) (by rw [c20]; decide) (by rw [c20]; rfl) (by decide) ?_
              refine lv_aload_n hx hb dX5_ofParagraph_88 rfl (lv_at hl 0 rfl) ?_
              obtain ⟨r21, h22, hf⟩ := ob1_some hf
              refine kVi (As := []) (rest := []) ⟨hx, hb, hml, hown, hts⟩ (okX1_countingVerbs l D cy ad A hD r5 S r21 h22) (cwV 0 hts gX5_ofParagraph_X1_countingVerbs rfl rfl rfl (by decide +kernel) ⟨Nat.le_of_ble_eq_true rfl, Nat.le_of_ble_eq_true rfl⟩) hK hP hS (va_recv hK.1 hP (ci := 1) (q := (RX1, TX1, 14)) rfl (atP0 cy ad S r5 (ck_no h22).1)) rfl hl.1 rfl (Nat.le_of_ble_eq_true rfl) dX5_ofParagraph_89 (fun H locs hP hS => ?_)
              have he := Option.some.inj hf
              exact rI hx hb hr hP hS he hlocks dX5_ofParagraph_92
            · have hf := (if_neg c20).symm.trans hf
              by_cases c23 : p1 = 5
              · have hf := (if_pos c23).symm.trans hf
                refine lv_tableIn (off := 70) (tgt := 93) hx hb dX5_ofParagraph_23 (by rw [c23]; decide) (by rw [c23]; decide) (by rw [c23]; rfl) (by decide) ?_
                refine lv_aload_n hx hb dX5_ofParagraph_93 rfl (lv_at hl 0 rfl) ?_
                obtain ⟨r24, h25, hf⟩ := ob1_some hf
                refine kVi (As := []) (rest := []) ⟨hx, hb, hml, hown, hts⟩ (okX1_hintSet l D cy ad A hD r5 S r24 h25) (cwV 0 hts gX5_ofParagraph_X1_hintSet rfl rfl rfl (by decide +kernel) ⟨Nat.le_of_ble_eq_true rfl, Nat.le_of_ble_eq_true rfl⟩) hK hP hS (va_recv hK.1 hP (ci := 1) (q := (RX1, TX1, 14)) rfl (atP0 cy ad S r5 (ck_no h25).1)) rfl hl.1 rfl (Nat.le_of_ble_eq_true rfl) dX5_ofParagraph_94 (fun H locs hP hS => ?_)
                have he := Option.some.inj hf
                exact rI hx hb hr hP hS he hlocks dX5_ofParagraph_97
              · have hf := (if_neg c23).symm.trans hf
                refine lv_tableOut (tgt := 98) hx hb dX5_ofParagraph_23 (by have n0 := ne_toInt c7; have z0 : (0 : Int32).toInt = 0 := rfl; have n1 := ne_toInt c10; have z1 : (1 : Int32).toInt = 1 := rfl; have n2 := ne_toInt c13; have z2 : (2 : Int32).toInt = 2 := rfl; have n3 := ne_toInt c17; have z3 : (3 : Int32).toInt = 3 := rfl; have n4 := ne_toInt c20; have z4 : (4 : Int32).toInt = 4 := rfl; have n5 := ne_toInt c23; have z5 : (5 : Int32).toInt = 5 := rfl; omega) (by decide) ?_
                refine lv_bipush (v := (-2)) hx hb dX5_ofParagraph_98 (by decide) ?_
                have he := Option.some.inj hf
                exact rI hx hb hr hP hS he hlocks dX5_ofParagraph_100
  · have hf := (if_pos c4).symm.trans hf
    refine lv_iconst (v := (-1)) hx hb dX5_ofParagraph_11 (by decide) ?_
    have he := Option.some.inj hf
    exact rI hx hb hr hP hS he hlocks dX5_ofParagraph_12

def fX0_linkAt (p0 : Int32) (S : XS) : Option Int32 := (if (bi (fX0_holds p0 S)) = 0 then (some 0) else (ck p0 16 (some (xa S 10 p0.toNatClampNeg))))
set_option maxHeartbeats 4000000 in
set_option maxRecDepth 100000 in
theorem okX0_linkAt (l : Launch) (D : va_G) (cy : Nat → ClassId) (ad : Nat → Nat) (A : Nat → Prop) (hD : ∀ S, va_D A (wX cy ad S)) (p0 : Int32) (S : XS) (r : Int32) (hf : fX0_linkAt p0 S = some r) : MI l yX0_linkAt wsX0_linkAt { frames := 2, cells := 0, slots := 0, locals := 42 } D cy A (wX cy ad S) [.ref (ad 7), .int p0] r (wX cy ad S) := by
  refine Met.ofW (cc := cX0_linkAt) (maxL := 2) (ret := (some .int)) (by decide) rfl ?_
  intro p e s m args below meth c s₁ B hml hv
  obtain ⟨ha, hP, hK⟩ := hv
  have hx := B.exec
  have hb := B.bytes
  have hr := B.returns
  have hts := atoms_spec (ws := wsX0_linkAt) B.pre
  have hown : s.vm.findClass RX0 = some m.cls := findClass_of_methodNamed B.named
  have hlocks := B.notSynchronized
  have hS : va_S A s.heap s.heap [] := va_S.rf
  obtain ⟨ls, hl, he0⟩ := ent (m := m) ha (n := 2) (Nat.le_of_ble_eq_true rfl)
  refine W.eq he0 ?_
  have hl : lv_has ls 2 [(0, .ref (ad 7)), (1, .int p0)] := hl
  unfold fX0_linkAt at hf
  suffices hG : ∀ (H : Heap) (locs : List Loc), va_P D vwCl (wX cy ad S) H → va_S A s.heap H locs → W p l e (headSpec wsX0_linkAt { frames := 2, cells := 0, slots := 0, locals := 42 }).room s m args below meth c H locs 0 0 (MQ below (QcI D A r (wX cy ad S)) args s 0 0 A) (F0 m 0 ls []) by exact hG s.heap [] hP va_S.rf
  clear hP hS
  intro H locs hP hS
  refine lv_aload_n hx hb dX0_linkAt_0 rfl (lv_at hl 0 rfl) ?_
  refine lv_iload_n hx hb dX0_linkAt_1 rfl (lv_at hl 1 rfl) ?_
  refine kVi (As := [.int p0]) (rest := []) ⟨hx, hb, hml, hown, hts⟩ (okX0_holds l D cy ad A hD p0 S _ rfl) (cwV 1 hts gX0_linkAt_X0_holds rfl rfl rfl (by decide +kernel) ⟨Nat.le_of_ble_eq_true rfl, Nat.le_of_ble_eq_true rfl⟩) hK hP hS (va_recv hK.1 hP (ci := 0) (q := (RX0, TX0, 9)) rfl (atX7 cy ad S)) rfl hl.1 rfl (Nat.le_of_ble_eq_true rfl) dX0_linkAt_2 (fun H locs hP hS => ?_)
  refine lv_if_eq (tgt := 17) hx hb dX0_linkAt_5 (by decide) (fun c4 => ?_) (fun c4 => ?_)
  · have hf := (if_pos c4).symm.trans hf
    refine lv_iconst (v := 0) hx hb dX0_linkAt_17 (by decide) ?_
    have he := Option.some.inj hf
    exact rI hx hb hr hP hS he hlocks dX0_linkAt_18
  · have hf := (if_neg c4).symm.trans hf
    refine lv_aload_n hx hb dX0_linkAt_8 rfl (lv_at hl 0 rfl) ?_
    refine gfX0_2 hx hb hts (fun _ h => List.mem_cons_of_mem _ (List.mem_append_right _ h)) hown hK hP (hts (Cond.fieldLink RX0 19 "WhoSpeaks$Chain" "links" "[I") (List.mem_of_getElem? (i := 1) rfl)) dX0_linkAt_9 ?_
    refine lv_iload_n hx hb dX0_linkAt_12 rfl (lv_at hl 1 rfl) ?_
    obtain ⟨c5, hf⟩ := ck_some hf
    refine alX10 hx hb hK hP c5 dX0_linkAt_13 ?_
    refine lv_goto (tgt := 18) hx hb dX0_linkAt_14 (by decide) ?_
    have he := Option.some.inj hf
    exact rI hx hb hr hP hS he hlocks dX0_linkAt_18

def fX0_countAt_13 (p1 : Int32) (p2 : Int32) (S : XS) : Option Int64 := (bnd (((p1 * 8) + p2)) (fun y5 => (if (bi (fX5_isWithin p2 8)) = 0 then (some 0) else (if (bi (fX5_isWithin y5 128)) = 0 then (some 0) else (ck y5 128 (some (xl S 13 y5.toNatClampNeg)))))))
set_option maxHeartbeats 4000000 in
set_option maxRecDepth 100000 in
theorem okX0_countAt_13 (l : Launch) (D : va_G) (cy : Nat → ClassId) (ad : Nat → Nat) (A : Nat → Prop) (hD : ∀ S, va_D A (wX cy ad S)) (p1 : Int32) (p2 : Int32) (S : XS) (r : Int64) (hf : fX0_countAt_13 p1 p2 S = some r) : ML l yX0_countAt wsX0_countAt { frames := 1, cells := 0, slots := 0, locals := 21 } D cy A (wX cy ad S) [.ref (ad 13), .int p1, .int p2] r (wX cy ad S) := by
  refine Met.ofW (cc := cX0_countAt) (maxL := 4) (ret := (some .long)) (by decide) rfl ?_
  intro p e s m args below meth c s₁ B hml hv
  obtain ⟨ha, hP, hK⟩ := hv
  have hx := B.exec
  have hb := B.bytes
  have hr := B.returns
  have hts := atoms_spec (ws := wsX0_countAt) B.pre
  have hown : s.vm.findClass RX0 = some m.cls := findClass_of_methodNamed B.named
  have hlocks := B.notSynchronized
  have hS : va_S A s.heap s.heap [] := va_S.rf
  obtain ⟨ls, hl, he0⟩ := ent (m := m) ha (n := 4) (Nat.le_of_ble_eq_true rfl)
  refine W.eq he0 ?_
  have hl : lv_has ls 4 [(0, .ref (ad 13)), (1, .int p1), (2, .int p2)] := hl
  unfold fX0_countAt_13 at hf
  suffices hG : ∀ (H : Heap) (locs : List Loc), va_P D vwCl (wX cy ad S) H → va_S A s.heap H locs → W p l e (headSpec wsX0_countAt { frames := 1, cells := 0, slots := 0, locals := 21 }).room s m args below meth c H locs 0 0 (MQ below (QcL D A r (wX cy ad S)) args s 0 0 A) (F0 m 0 ls []) by exact hG s.heap [] hP va_S.rf
  clear hP hS
  intro H locs hP hS
  refine lv_iload_n hx hb dX0_countAt_0 rfl (lv_at hl 1 rfl) ?_
  refine lv_bipush (v := 8) hx hb dX0_countAt_1 (by decide) ?_
  refine lv_imul hx hb dX0_countAt_3 ?_
  refine lv_iload_n hx hb dX0_countAt_4 rfl (lv_at hl 2 rfl) ?_
  refine lv_iadd hx hb dX0_countAt_5 ?_
  refine lv_topi (fun y5 ey5 => ?_)
  have hf := bnd_of ey5 hf
  refine lv_istore_n (lv' := [(3, .int y5), (0, .ref (ad 13)), (1, .int p1), (2, .int p2)]) hx hb dX0_countAt_6 rfl hl (by decide) rfl (fun ls hl => ?_)
  refine lv_iload_n hx hb dX0_countAt_7 rfl (lv_at hl 3 rfl) ?_
  refine lv_bipush (v := 8) hx hb dX0_countAt_8 (by decide) ?_
  refine kNi (As := [.int p2, .int 8]) (rest := []) ⟨hx, hb, hml, hown, hts⟩ (okX5_isWithin l D cy A (wX cy ad S) p2 8 _ rfl) ⟨va_cnB 2 hts gX0_countAt_X5_isWithin_n42 rfl rfl rfl hK.2.2.2.2.1 (hts (Cond.initialized RX5) (List.mem_of_getElem? (i := 2) rfl)) (by decide +kernel) ⟨Nat.le_of_ble_eq_true rfl, Nat.le_of_ble_eq_true rfl⟩, (hts (Cond.static yX5_isWithin) (List.mem_of_getElem? (i := 1) rfl)), trivial⟩ hK hP hS rfl hl.1 rfl (Nat.le_of_ble_eq_true rfl) dX0_countAt_10 (fun H locs hP hS => ?_)
  refine lv_if_eq (tgt := 31) hx hb dX0_countAt_13 (by decide) (fun c7 => ?_) (fun c7 => ?_)
  · have hf := (if_pos c7).symm.trans hf
    refine lv_lconst (v := 0) hx hb dX0_countAt_31 (by decide) ?_
    have he := Option.some.inj hf
    exact rL hx hb hr hP hS he hlocks dX0_countAt_32
  · have hf := (if_neg c7).symm.trans hf
    refine lv_iload_n hx hb dX0_countAt_16 rfl (lv_at hl 0 rfl) ?_
    refine lv_aload_n hx hb dX0_countAt_17 rfl (lv_at hl 1 rfl) ?_
    refine anX13 hx hb hK hP dX0_countAt_18 ?_
    refine kNi (As := [.int y5, .int 128]) (rest := []) ⟨hx, hb, hml, hown, hts⟩ (okX5_isWithin l D cy A (wX cy ad S) y5 128 _ rfl) ⟨va_cnB 2 hts gX0_countAt_X5_isWithin_n42 rfl rfl rfl hK.2.2.2.2.1 (hts (Cond.initialized RX5) (List.mem_of_getElem? (i := 2) rfl)) (by decide +kernel) ⟨Nat.le_of_ble_eq_true rfl, Nat.le_of_ble_eq_true rfl⟩, (hts (Cond.static yX5_isWithin) (List.mem_of_getElem? (i := 1) rfl)), trivial⟩ hK hP hS rfl hl.1 rfl (Nat.le_of_ble_eq_true rfl) dX0_countAt_19 (fun H locs hP hS => ?_)
    refine lv_if_eq (tgt := 31) hx hb dX0_countAt_22 (by decide) (fun c9 => ?_) (fun c9 => ?_)
    · have hf := (if_pos c9).symm.trans hf
      refine lv_lconst (v := 0) hx hb dX0_countAt_31 (by decide) ?_
      have he := Option.some.inj hf
      exact rL hx hb hr hP hS he hlocks dX0_countAt_32
    · have hf := (if_neg c9).symm.trans hf
      refine lv_aload_n hx hb dX0_countAt_25 rfl (lv_at hl 1 rfl) ?_
      refine lv_iload_n hx hb dX0_countAt_26 rfl (lv_at hl 0 rfl) ?_
      obtain ⟨c10, hf⟩ := ck_some hf
      refine alX13 hx hb hK hP c10 dX0_countAt_27 ?_
      refine lv_goto (tgt := 32) hx hb dX0_countAt_28 (by decide) ?_
      have he := Option.some.inj hf
      exact rL hx hb hr hP hS he hlocks dX0_countAt_32
