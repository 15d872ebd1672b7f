def bX6_readsItem_160  (x1 : Int32) (S : MS) : Option (Bool × MS) := (ck x1 16 (ck x1 16 (bnd (maW S 3 x1.toNatClampNeg ((ma S 3 x1.toNatClampNeg) + 1)) (fun S63 => (some (true, S63))))))
def bX6_readsItem_73  (x1 : Int32) (x2 : Int32) (x3 : Int32) (s1 : Int32) (s2 : Int32) (S : MS) : Option (Bool × MS) := (ck s1 192 (bnd (maW S 5 s1.toNatClampNeg s2) (fun S65 => (bnd (miW S65 4 ((mi S65 4) + 1)) (fun S67 => (if x3 = 0 then (if (mi S67 2) ≤ (mi S67 4) then (bX6_readsItem_160  (x1) S67) else (ck (mi S67 4) 12 (if (ma S67 2 (mi S67 4).toNatClampNeg) = 64 then (bnd (miW S67 4 ((mi S67 4) + 1)) (fun S72 => (ob1 (fX6_isNameHere  S72) (fun r73 => (if (bi r73) = 0 then (some (false, S72)) else (ck (mi S72 4) 12 (ck x2 192 (bnd (maW S72 5 x2.toNatClampNeg ((ma S72 2 (mi S72 4).toNatClampNeg) - 65)) (fun S77 => (bnd (miW S77 4 ((mi S77 4) + 1)) (fun S79 => (bX6_readsItem_160  (x1) S79)))))))))))) else (bX6_readsItem_160  (x1) S67)))) else (bX6_readsItem_160  (x1) S67)))))))
def bX6_readsItem_39  (x1 : Int32) (x2 : Int32) (x3 : Int32) (S : MS) : Option (Bool × MS) := (ck x2 192 (bnd (maW S 4 x2.toNatClampNeg x3) (fun S80 => (if x3 = 5 then (ck (mi S80 4) 12 (bX6_readsItem_73  (x1) (x2) (x3) (x2) (((ma S80 2 (mi S80 4).toNatClampNeg) - 65)) S80)) else (bX6_readsItem_73  (x1) (x2) (x3) (x2) ((-9)) S80)))))
def fX6_readsItem (p0 : Int32) (S : MS) : Option (Bool × MS) := (ck p0 16 (bnd (((12 * p0) + (ma S 3 p0.toNatClampNeg))) (fun y85 => (ck (mi S 4) 12 (bnd ((fX6_sortOfItem (ma S 2 (mi S 4).toNatClampNeg))) (fun y88 => (if y88 = 5 then (ob1 (fX6_isNameHere  S) (fun r90 => (if (bi r90) = 0 then (some (false, S)) else (bX6_readsItem_39  (p0) (y85) (y88) S)))) else (bX6_readsItem_39  (p0) (y85) (y88) S))))))))
set_option maxHeartbeats 4000000 in
set_option maxRecDepth 100000 in
theorem okX6_readsItem (l : Launch) (D : va_G) (cy : Nat → ClassId) (ad : Nat → Nat) (A : Nat → Prop) (hD : ∀ S, va_D A (wM cy ad S)) (p0 : Int32) (S : MS) (r : Bool) (S' : MS) (hf : fX6_readsItem p0 S = some (r, S')) : MI l yX6_readsItem wsX6_readsItem { frames := 3, cells := 0, slots := 0, locals := 63 } D cy A (wM cy ad S) [.ref (ad 0), .int p0] (bi r) (wM cy ad S') := by
  refine Met.ofW (cc := cX6_readsItem) (maxL := 4) (ret := (some .boolean)) (by decide) rfl ?_
  intro p e s m args below meth c s₁ B hml hv
  obtain ⟨ha, hP, hK⟩ := hv
  have hx := B.exec
  have hb := B.bytes
  have hr := B.returns
  have hts := atoms_spec (ws := wsX6_readsItem) B.pre
  have hown : s.vm.findClass RX6 = some m.cls := findClass_of_methodNamed B.named
  have hlocks := B.notSynchronized
  have hS : va_S A s.heap s.heap [] := va_S.rf
  obtain ⟨ls, hl, he0⟩ := ent (m := m) ha (n := 4) (Nat.le_of_ble_eq_true rfl)
  refine W.eq he0 ?_
  have hl : lv_has ls 4 [(0, .ref (ad 0)), (1, .int p0)] := hl
  have K160 : ∀ (x1 : Int32) (S : MS) (H : Heap) (locs : List Loc) (ls : Array Slot), va_P D vwCl (wM cy ad S) H → va_S A s.heap H locs → lv_has ls 4 [(0, .ref (ad 0)), (1, .int x1)] → bX6_readsItem_160  x1 S = some (r, S') → W p l e (headSpec wsX6_readsItem { frames := 3, cells := 0, slots := 0, locals := 63 }).room s m args below meth c H locs 0 0 (MQ below (QcI D A (bi r) (wM cy ad S')) args s 0 0 A) (F0 m 160 ls []) := by
    intro  x1 S H locs ls hP hS hl hf
    unfold bX6_readsItem_160 at hf
    refine lv_aload_n hx hb dX6_readsItem_160 rfl (lv_at hl 0 rfl) ?_
    refine gfX6_6 hx hb hts (fun _ h => List.mem_cons_of_mem _ (List.mem_append_right _ h)) hown hK hP (hts (Cond.fieldLink RX6 20 "WhoSpeaksModel" "itemsOf" "[I") (List.mem_of_getElem? (i := 1) rfl)) dX6_readsItem_161 ?_
    refine lv_iload_n hx hb dX6_readsItem_164 rfl (lv_at hl 1 rfl) ?_
    refine lv_dup2_11 hx hb dX6_readsItem_165 rfl rfl ?_
    obtain ⟨c62, hf⟩ := ck_some hf
    refine alM3 hx hb hK hP c62 dX6_readsItem_166 ?_
    refine lv_iconst (v := 1) hx hb dX6_readsItem_167 (by decide) ?_
    refine lv_iadd hx hb dX6_readsItem_168 ?_
    obtain ⟨c64, hf⟩ := ck_some hf
    refine asM3 (v := ((ma S 3 x1.toNatClampNeg) + 1)) hx hb hK hP hD hS c64 dX6_readsItem_169 (fun S63 eS63 H locs hP hS => ?_)
    have hf := bnd_of eS63 hf
    refine lv_iconst (v := 1) hx hb dX6_readsItem_170 (by decide) ?_
    obtain ⟨he, hS9⟩ := Prod.mk.inj (Option.some.inj hf)
    subst hS9
    exact rZ hx hb hr (bi_nar true) hP hS (congrArg bi he) hlocks dX6_readsItem_171
  have K73 : ∀ (x1 : Int32) (x2 : Int32) (x3 : Int32) (s1 : Int32) (s2 : Int32) (S : MS) (H : Heap) (locs : List Loc) (ls : Array Slot), va_P D vwCl (wM cy ad S) H → va_S A s.heap H locs → lv_has ls 4 [(0, .ref (ad 0)), (1, .int x1), (2, .int x2), (3, .int x3)] → bX6_readsItem_73  x1 x2 x3 s1 s2 S = some (r, S') → W p l e (headSpec wsX6_readsItem { frames := 3, cells := 0, slots := 0, locals := 63 }).room s m args below meth c H locs 0 0 (MQ below (QcI D A (bi r) (wM cy ad S')) args s 0 0 A) (F0 m 73 ls [.int s2, .int s1, .ref (ad 5)]) := by
    intro  x1 x2 x3 s1 s2 S H locs ls hP hS hl hf
    unfold bX6_readsItem_73 at hf
    obtain ⟨c66, hf⟩ := ck_some hf
    refine asM5 (v := s2) hx hb hK hP hD hS c66 dX6_readsItem_73 (fun S65 eS65 H locs hP hS => ?_)
    have hf := bnd_of eS65 hf
    refine lv_aload_n hx hb dX6_readsItem_74 rfl (lv_at hl 0 rfl) ?_
    refine lv_dup hx hb dX6_readsItem_75 rfl ?_
    refine gfX6_12 hx hb hts (fun _ h => List.mem_cons_of_mem _ (List.mem_append_right _ h)) hown hK hP (hts (Cond.fieldLink RX6 103 "WhoSpeaksModel" "place" "I") (List.mem_of_getElem? (i := 3) rfl)) dX6_readsItem_76 ?_
    refine lv_iconst (v := 1) hx hb dX6_readsItem_79 (by decide) ?_
    refine lv_iadd hx hb dX6_readsItem_80 ?_
    refine pfX6_12 (v := ((mi S65 4) + 1)) hx hb hts (fun _ h => List.mem_cons_of_mem _ (List.mem_append_right _ h)) hown hK hP hD hS (hts (Cond.fieldLink RX6 103 "WhoSpeaksModel" "place" "I") (List.mem_of_getElem? (i := 3) rfl)) dX6_readsItem_81 (fun S67 eS67 H locs hP hS => ?_)
    have hf := bnd_of eS67 hf
    refine lv_iload_n hx hb dX6_readsItem_84 rfl (lv_at hl 3 rfl) ?_
    refine lv_if_ne (tgt := 160) hx hb dX6_readsItem_85 (by decide) (fun c68 => ?_) (fun c68 => ?_)
    · have hf := (if_neg c68).symm.trans hf
      exact K160  (x1) S67 H locs ls hP hS (lv_sub hl [0, 1] rfl) hf
    · have hf := (if_pos c68).symm.trans hf
      refine lv_aload_n hx hb dX6_readsItem_88 rfl (lv_at hl 0 rfl) ?_
      refine gfX6_12 hx hb hts (fun _ h => List.mem_cons_of_mem _ (List.mem_append_right _ h)) hown hK hP (hts (Cond.fieldLink RX6 103 "WhoSpeaksModel" "place" "I") (List.mem_of_getElem? (i := 3) rfl)) dX6_readsItem_89 ?_
      refine lv_aload_n hx hb dX6_readsItem_92 rfl (lv_at hl 0 rfl) ?_
      refine gfX6_4 hx hb hts (fun _ h => List.mem_cons_of_mem _ (List.mem_append_right _ h)) hown hK hP (hts (Cond.fieldLink RX6 96 "WhoSpeaksModel" "taped" "I") (List.mem_of_getElem? (i := 6) rfl)) dX6_readsItem_93 ?_
      refine lv_icmp_ge (tgt := 160) hx hb dX6_readsItem_96 (by decide) (fun c69 => ?_) (fun c69 => ?_)
      · have hf := (if_pos c69).symm.trans hf
        exact K160  (x1) S67 H locs ls hP hS (lv_sub hl [0, 1] rfl) hf
      · have hf := (if_neg c69).symm.trans hf
        refine lv_aload_n hx hb dX6_readsItem_99 rfl (lv_at hl 0 rfl) ?_
        refine gfX6_3 hx hb hts (fun _ h => List.mem_cons_of_mem _ (List.mem_append_right _ h)) hown hK hP (hts (Cond.fieldLink RX6 17 "WhoSpeaksModel" "tape" "[I") (List.mem_of_getElem? (i := 2) rfl)) dX6_readsItem_100 ?_
        refine lv_aload_n hx hb dX6_readsItem_103 rfl (lv_at hl 0 rfl) ?_
        refine gfX6_12 hx hb hts (fun _ h => List.mem_cons_of_mem _ (List.mem_append_right _ h)) hown hK hP (hts (Cond.fieldLink RX6 103 "WhoSpeaksModel" "place" "I") (List.mem_of_getElem? (i := 3) rfl)) dX6_readsItem_104 ?_
        obtain ⟨c70, hf⟩ := ck_some hf
        refine alM2 hx hb hK hP c70 dX6_readsItem_107 ?_
        refine lv_bipush (v := 64) hx hb dX6_readsItem_108 (by decide) ?_
        refine lv_icmp_ne (tgt := 160) hx hb dX6_readsItem_110 (by decide) (fun c71 => ?_) (fun c71 => ?_)
        · have hf := (if_neg c71).symm.trans hf
          exact K160  (x1) S67 H locs ls hP hS (lv_sub hl [0, 1] rfl) hf
        · have hf := (if_pos c71).symm.trans hf
          refine lv_aload_n hx hb dX6_readsItem_113 rfl (lv_at hl 0 rfl) ?_
          refine lv_dup hx hb dX6_readsItem_114 rfl ?_
          refine gfX6_12 hx hb hts (fun _ h => List.mem_cons_of_mem _ (List.mem_append_right _ h)) hown hK hP (hts (Cond.fieldLink RX6 103 "WhoSpeaksModel" "place" "I") (List.mem_of_getElem? (i := 3) rfl)) dX6_readsItem_115 ?_
          refine lv_iconst (v := 1) hx hb dX6_readsItem_118 (by decide) ?_
          refine lv_iadd hx hb dX6_readsItem_119 ?_
          refine pfX6_12 (v := ((mi S67 4) + 1)) hx hb hts (fun _ h => List.mem_cons_of_mem _ (List.mem_append_right _ h)) hown hK hP hD hS (hts (Cond.fieldLink RX6 103 "WhoSpeaksModel" "place" "I") (List.mem_of_getElem? (i := 3) rfl)) dX6_readsItem_120 (fun S72 eS72 H locs hP hS => ?_)
          have hf := bnd_of eS72 hf
          refine lv_aload_n hx hb dX6_readsItem_123 rfl (lv_at hl 0 rfl) ?_
          obtain ⟨r73, h74, hf⟩ := ob1_some hf
          refine kVi (As := []) (rest := []) ⟨hx, hb, hml, hown, hts⟩ (okX6_isNameHere l D cy ad A hD  S72 r73 h74) (cwV 0 hts gX6_readsItem_X6_isNameHere rfl rfl rfl (by decide +kernel) ⟨Nat.le_of_ble_eq_true rfl, Nat.le_of_ble_eq_true rfl⟩) hK hP hS (va_recv hK.1 hP (ci := 6) (q := (RX6, TX6, 21)) rfl (atM0 cy ad S72)) rfl hl.1 rfl (Nat.le_of_ble_eq_true rfl) dX6_readsItem_124 (fun H locs hP hS => ?_)
          refine lv_if_ne (tgt := 132) hx hb dX6_readsItem_127 (by decide) (fun c75 => ?_) (fun c75 => ?_)
          · have hf := (if_neg c75).symm.trans hf
            refine lv_aload_n hx hb dX6_readsItem_132 rfl (lv_at hl 0 rfl) ?_
            refine gfX6_8 hx hb hts (fun _ h => List.mem_cons_of_mem _ (List.mem_append_right _ h)) hown hK hP (hts (Cond.fieldLink RX6 26 "WhoSpeaksModel" "whom" "[I") (List.mem_of_getElem? (i := 5) rfl)) dX6_readsItem_133 ?_
            refine lv_iload_n hx hb dX6_readsItem_136 rfl (lv_at hl 2 rfl) ?_
            refine lv_aload_n hx hb dX6_readsItem_137 rfl (lv_at hl 0 rfl) ?_
            refine gfX6_3 hx hb hts (fun _ h => List.mem_cons_of_mem _ (List.mem_append_right _ h)) hown hK hP (hts (Cond.fieldLink RX6 17 "WhoSpeaksModel" "tape" "[I") (List.mem_of_getElem? (i := 2) rfl)) dX6_readsItem_138 ?_
            refine lv_aload_n hx hb dX6_readsItem_141 rfl (lv_at hl 0 rfl) ?_
            refine gfX6_12 hx hb hts (fun _ h => List.mem_cons_of_mem _ (List.mem_append_right _ h)) hown hK hP (hts (Cond.fieldLink RX6 103 "WhoSpeaksModel" "place" "I") (List.mem_of_getElem? (i := 3) rfl)) dX6_readsItem_142 ?_
            obtain ⟨c76, hf⟩ := ck_some hf
            refine alM2 hx hb hK hP c76 dX6_readsItem_145 ?_
            refine lv_bipush (v := 65) hx hb dX6_readsItem_146 (by decide) ?_
            refine lv_isub hx hb dX6_readsItem_148 ?_
            obtain ⟨c78, hf⟩ := ck_some hf
            refine asM5 (v := ((ma S72 2 (mi S72 4).toNatClampNeg) - 65)) hx hb hK hP hD hS c78 dX6_readsItem_149 (fun S77 eS77 H locs hP hS => ?_)
            have hf := bnd_of eS77 hf
            refine lv_aload_n hx hb dX6_readsItem_150 rfl (lv_at hl 0 rfl) ?_
            refine lv_dup hx hb dX6_readsItem_151 rfl ?_
            refine gfX6_12 hx hb hts (fun _ h => List.mem_cons_of_mem _ (List.mem_append_right _ h)) hown hK hP (hts (Cond.fieldLink RX6 103 "WhoSpeaksModel" "place" "I") (List.mem_of_getElem? (i := 3) rfl)) dX6_readsItem_152 ?_
            refine lv_iconst (v := 1) hx hb dX6_readsItem_155 (by decide) ?_
            refine lv_iadd hx hb dX6_readsItem_156 ?_
            refine pfX6_12 (v := ((mi S77 4) + 1)) hx hb hts (fun _ h => List.mem_cons_of_mem _ (List.mem_append_right _ h)) hown hK hP hD hS (hts (Cond.fieldLink RX6 103 "WhoSpeaksModel" "place" "I") (List.mem_of_getElem? (i := 3) rfl)) dX6_readsItem_157 (fun S79 eS79 H locs hP hS => ?_)
            have hf := bnd_of eS79 hf
            exact K160  (x1) S79 H locs ls hP hS (lv_sub hl [0, 1] rfl) hf
          · have hf := (if_pos c75).symm.trans hf
            refine lv_iconst (v := 0) hx hb dX6_readsItem_130 (by decide) ?_
            obtain ⟨he, hS9⟩ := Prod.mk.inj (Option.some.inj hf)
            subst hS9
            exact rZ hx hb hr (bi_nar false) hP hS (congrArg bi he) hlocks dX6_readsItem_131
  have K39 : ∀ (x1 : Int32) (x2 : Int32) (x3 : Int32) (S : MS) (H : Heap) (locs : List Loc) (ls : Array Slot), va_P D vwCl (wM cy ad S) H → va_S A s.heap H locs → lv_has ls 4 [(0, .ref (ad 0)), (1, .int x1), (2, .int x2), (3, .int x3)] → bX6_readsItem_39  x1 x2 x3 S = some (r, S') → W p l e (headSpec wsX6_readsItem { frames := 3, cells := 0, slots := 0, locals := 63 }).room s m args below meth c H locs 0 0 (MQ below (QcI D A (bi r) (wM cy ad S')) args s 0 0 A) (F0 m 39 ls []) := by
    intro  x1 x2 x3 S H locs ls hP hS hl hf
    unfold bX6_readsItem_39 at hf
    refine lv_aload_n hx hb dX6_readsItem_39 rfl (lv_at hl 0 rfl) ?_
    refine gfX6_7 hx hb hts (fun _ h => List.mem_cons_of_mem _ (List.mem_append_right _ h)) hown hK hP (hts (Cond.fieldLink RX6 23 "WhoSpeaksModel" "item" "[I") (List.mem_of_getElem? (i := 4) rfl)) dX6_readsItem_40 ?_
    refine lv_iload_n hx hb dX6_readsItem_43 rfl (lv_at hl 2 rfl) ?_
    refine lv_iload_n hx hb dX6_readsItem_44 rfl (lv_at hl 3 rfl) ?_
    obtain ⟨c81, hf⟩ := ck_some hf
    refine asM4 (v := x3) hx hb hK hP hD hS c81 dX6_readsItem_45 (fun S80 eS80 H locs hP hS => ?_)
    have hf := bnd_of eS80 hf
    refine lv_aload_n hx hb dX6_readsItem_46 rfl (lv_at hl 0 rfl) ?_
    refine gfX6_8 hx hb hts (fun _ h => List.mem_cons_of_mem _ (List.mem_append_right _ h)) hown hK hP (hts (Cond.fieldLink RX6 26 "WhoSpeaksModel" "whom" "[I") (List.mem_of_getElem? (i := 5) rfl)) dX6_readsItem_47 ?_
    refine lv_iload_n hx hb dX6_readsItem_50 rfl (lv_at hl 2 rfl) ?_
    refine lv_iload_n hx hb dX6_readsItem_51 rfl (lv_at hl 3 rfl) ?_
    refine lv_iconst (v := 5) hx hb dX6_readsItem_52 (by decide) ?_
    refine lv_icmp_ne (tgt := 71) hx hb dX6_readsItem_53 (by decide) (fun c82 => ?_) (fun c82 => ?_)
    · have hf := (if_neg c82).symm.trans hf
      refine lv_bipush (v := (-9)) hx hb dX6_readsItem_71 (by decide) ?_
      exact K73  (x1) (x2) (x3) (x2) ((-9)) S80 H locs ls hP hS (lv_sub hl [0, 1, 2, 3] rfl) hf
    · have hf := (if_pos c82).symm.trans hf
      refine lv_aload_n hx hb dX6_readsItem_56 rfl (lv_at hl 0 rfl) ?_
      refine gfX6_3 hx hb hts (fun _ h => List.mem_cons_of_mem _ (List.mem_append_right _ h)) hown hK hP (hts (Cond.fieldLink RX6 17 "WhoSpeaksModel" "tape" "[I") (List.mem_of_getElem? (i := 2) rfl)) dX6_readsItem_57 ?_
      refine lv_aload_n hx hb dX6_readsItem_60 rfl (lv_at hl 0 rfl) ?_
      refine gfX6_12 hx hb hts (fun _ h => List.mem_cons_of_mem _ (List.mem_append_right _ h)) hown hK hP (hts (Cond.fieldLink RX6 103 "WhoSpeaksModel" "place" "I") (List.mem_of_getElem? (i := 3) rfl)) dX6_readsItem_61 ?_
      obtain ⟨c83, hf⟩ := ck_some hf
      refine alM2 hx hb hK hP c83 dX6_readsItem_64 ?_
      refine lv_bipush (v := 65) hx hb dX6_readsItem_65 (by decide) ?_
      refine lv_isub hx hb dX6_readsItem_67 ?_
      refine lv_goto (tgt := 73) hx hb dX6_readsItem_68 (by decide) ?_
      exact K73  (x1) (x2) (x3) (x2) (((ma S80 2 (mi S80 4).toNatClampNeg) - 65)) S80 H locs ls hP hS (lv_sub hl [0, 1, 2, 3] rfl) hf
  unfold fX6_readsItem at hf
  suffices hG : ∀ (H : Heap) (locs : List Loc), va_P D vwCl (wM cy ad S) H → va_S A s.heap H locs → W p l e (headSpec wsX6_readsItem { frames := 3, cells := 0, slots := 0, locals := 63 }).room s m args below meth c H locs 0 0 (MQ below (QcI D A (bi r) (wM cy ad S')) args s 0 0 A) (F0 m 0 ls []) by exact hG s.heap [] hP va_S.rf
  clear hP hS
  intro H locs hP hS
  refine lv_bipush (v := 12) hx hb dX6_readsItem_0 (by decide) ?_
  refine lv_iload_n hx hb dX6_readsItem_2 rfl (lv_at hl 1 rfl) ?_
  refine lv_imul hx hb dX6_readsItem_3 ?_
  refine lv_aload_n hx hb dX6_readsItem_4 rfl (lv_at hl 0 rfl) ?_
  refine gfX6_6 hx hb hts (fun _ h => List.mem_cons_of_mem _ (List.mem_append_right _ h)) hown hK hP (hts (Cond.fieldLink RX6 20 "WhoSpeaksModel" "itemsOf" "[I") (List.mem_of_getElem? (i := 1) rfl)) dX6_readsItem_5 ?_
  refine lv_iload_n hx hb dX6_readsItem_8 rfl (lv_at hl 1 rfl) ?_
  obtain ⟨c84, hf⟩ := ck_some hf
  refine alM3 hx hb hK hP c84 dX6_readsItem_9 ?_
  refine lv_iadd hx hb dX6_readsItem_10 ?_
  refine lv_topi (fun y85 ey85 => ?_)
  have hf := bnd_of ey85 hf
  refine lv_istore_n (lv' := [(2, .int y85), (0, .ref (ad 0)), (1, .int p0)]) hx hb dX6_readsItem_11 rfl hl (by decide) rfl (fun ls hl => ?_)
  refine lv_aload_n hx hb dX6_readsItem_12 rfl (lv_at hl 1 rfl) ?_
  refine gfX6_3 hx hb hts (fun _ h => List.mem_cons_of_mem _ (List.mem_append_right _ h)) hown hK hP (hts (Cond.fieldLink RX6 17 "WhoSpeaksModel" "tape" "[I") (List.mem_of_getElem? (i := 2) rfl)) dX6_readsItem_13 ?_
  refine lv_aload_n hx hb dX6_readsItem_16 rfl (lv_at hl 1 rfl) ?_
  refine gfX6_12 hx hb hts (fun _ h => List.mem_cons_of_mem _ (List.mem_append_right _ h)) hown hK hP (hts (Cond.fieldLink RX6 103 "WhoSpeaksModel" "place" "I") (List.mem_of_getElem? (i := 3) rfl)) dX6_readsItem_17 ?_
  obtain ⟨c86, hf⟩ := ck_some hf
  refine alM2 hx hb hK hP c86 dX6_readsItem_20 ?_
  refine kSi (As := [.int (ma S 2 (mi S 4).toNatClampNeg)]) (rest := []) ⟨hx, hb, hml, hown, hts⟩ (okX6_sortOfItem l D cy A (wM cy ad S) (ma S 2 (mi S 4).toNatClampNeg) _ rfl) (va_cwS 1 hts gX6_readsItem_X6_sortOfItem rfl rfl rfl (by decide +kernel) ⟨Nat.le_of_ble_eq_true rfl, Nat.le_of_ble_eq_true rfl⟩) hK hP hS rfl hl.1 rfl (Nat.le_of_ble_eq_true rfl) dX6_readsItem_21 (fun H locs hP hS => ?_)
  refine lv_topi (fun y88 ey88 => ?_)
  have hf := bnd_of ey88 hf
  refine lv_istore_n (lv' := [(3, .int y88), (2, .int y85), (0, .ref (ad 0)), (1, .int p0)]) hx hb dX6_readsItem_24 rfl hl (by decide) rfl (fun ls hl => ?_)
  refine lv_iload_n hx hb dX6_readsItem_25 rfl (lv_at hl 0 rfl) ?_
  refine lv_iconst (v := 5) hx hb dX6_readsItem_26 (by decide) ?_
  refine lv_icmp_ne (tgt := 39) hx hb dX6_readsItem_27 (by decide) (fun c89 => ?_) (fun c89 => ?_)
  · have hf := (if_neg c89).symm.trans hf
    exact K39  (p0) (y85) (y88) S H locs ls hP hS (lv_sub hl [2, 3, 1, 0] rfl) hf
  · have hf := (if_pos c89).symm.trans hf
    refine lv_aload_n hx hb dX6_readsItem_30 rfl (lv_at hl 2 rfl) ?_
    obtain ⟨r90, h91, hf⟩ := ob1_some hf
    refine kVi (As := []) (rest := []) ⟨hx, hb, hml, hown, hts⟩ (okX6_isNameHere l D cy ad A hD  S r90 h91) (cwV 0 hts gX6_readsItem_X6_isNameHere rfl rfl rfl (by decide +kernel) ⟨Nat.le_of_ble_eq_true rfl, Nat.le_of_ble_eq_true rfl⟩) hK hP hS (va_recv hK.1 hP (ci := 6) (q := (RX6, TX6, 21)) rfl (atM0 cy ad S)) rfl hl.1 rfl (Nat.le_of_ble_eq_true rfl) dX6_readsItem_31 (fun H locs hP hS => ?_)
    refine lv_if_ne (tgt := 39) hx hb dX6_readsItem_34 (by decide) (fun c92 => ?_) (fun c92 => ?_)
    · have hf := (if_neg c92).symm.trans hf
      exact K39  (p0) (y85) (y88) S H locs ls hP hS (lv_sub hl [2, 3, 1, 0] rfl) hf
    · have hf := (if_pos c92).symm.trans hf
      refine lv_iconst (v := 0) hx hb dX6_readsItem_37 (by decide) ?_
      obtain ⟨he, hS9⟩ := Prod.mk.inj (Option.some.inj hf)
      subst hS9
      exact rZ hx hb hr (bi_nar false) hP hS (congrArg bi he) hlocks dX6_readsItem_38

def bX6_readsText_71  (k71 : Int32 × MS → Option (Bool × MS)) (x1 : Int32) (S : MS) : Option (Bool × MS) := (if (mi S 2) ≤ (mi S 4) then (ck x1 16 (if (ma S 3 x1.toNatClampNeg) ≤ 0 then (some (false, S)) else (ck x1 16 (if (ma S 6 x1.toNatClampNeg) = 0 then (some (true, S)) else (ob1 (fX6_speaks x1 S) (fun r45 => (if (bi r45) = 0 then (some (false, S)) else (some (true, S))))))))) else (ob2 (fX6_readsItem x1 S) (fun r48 S50 => (if (bi r48) = 0 then (some (false, S50)) else (k71 (x1, S50))))))
def bX6_readsText_40  (x1 : Int32) (s1 : Int32) (s2 : Bool) (S : MS) : Option (Bool × MS) := (ck s1 16 (bnd (maW S 6 s1.toNatClampNeg (bi s2)) (fun S52 => (ck x1 16 (if (ma S52 6 x1.toNatClampNeg) = 0 then (lp (fun k q => bX6_readsText_71  k q.1 q.2) FU (x1, S52)) else (if x1 = 0 then (some (false, S52)) else (ob1 (fX6_speaks (x1 - 1) S52) (fun r57 => (if (bi r57) = 0 then (some (false, S52)) else (bnd (miW S52 4 1) (fun S60 => (lp (fun k q => bX6_readsText_71  k q.1 q.2) FU (x1, S60)))))))))))))
def fX6_readsText (p0 : Int32) (S : MS) : Option (Bool × MS) := (bnd (miW S 4 0) (fun S61 => (ck p0 16 (bnd (maW S61 3 p0.toNatClampNeg 0) (fun S62 => (if (mi S62 2) ≤ 0 then (bX6_readsText_40  (p0) (p0) (false) S62) else (ck (0 : Int32) 12 (if (ma S62 2 (0 : Int32).toNatClampNeg) = 43 then (bX6_readsText_40  (p0) (p0) (true) S62) else (bX6_readsText_40  (p0) (p0) (false) S62)))))))))
set_option maxHeartbeats 4000000 in
set_option maxRecDepth 100000 in
theorem okX6_readsText (l : Launch) (D : va_G) (cy : Nat → ClassId) (ad : Nat → Nat) (A : Nat → Prop) (hD : ∀ S, va_D A (wM cy ad S)) (p0 : Int32) (S : MS) (r : Bool) (S' : MS) (hf : fX6_readsText p0 S = some (r, S')) : MI l yX6_readsText wsX6_readsText { frames := 4, cells := 0, slots := 0, locals := 86 } D cy A (wM cy ad S) [.ref (ad 0), .int p0] (bi r) (wM cy ad S') := by
  refine Met.ofW (cc := cX6_readsText) (maxL := 2) (ret := (some .boolean)) (by decide) rfl ?_
  intro p e s m args below meth c s₁ B hml hv
  obtain ⟨ha, hP, hK⟩ := hv
  have hx := B.exec
  have hb := B.bytes
  have hr := B.returns
  have hts := atoms_spec (ws := wsX6_readsText) B.pre
  have hown : s.vm.findClass RX6 = some m.cls := findClass_of_methodNamed B.named
  have hlocks := B.notSynchronized
  have hS : va_S A s.heap s.heap [] := va_S.rf
  obtain ⟨ls, hl, he0⟩ := ent (m := m) ha (n := 2) (Nat.le_of_ble_eq_true rfl)
  refine W.eq he0 ?_
  have hl : lv_has ls 2 [(0, .ref (ad 0)), (1, .int p0)] := hl
  have K71 : ∀ (n : Nat), ∀ (x1 : Int32) (S : MS) (H : Heap) (locs : List Loc) (ls : Array Slot), va_P D vwCl (wM cy ad S) H → va_S A s.heap H locs → lv_has ls 2 [(0, .ref (ad 0)), (1, .int x1)] → lp (fun k q => bX6_readsText_71  k q.1 q.2) n (x1, S) = some (r, S') → W p l e (headSpec wsX6_readsText { frames := 4, cells := 0, slots := 0, locals := 86 }).room s m args below meth c H locs 0 0 (MQ below (QcI D A (bi r) (wM cy ad S')) args s 0 0 A) (F0 m 71 ls []) := by
    intro  n
    induction n with
    | zero =>
      intro x1 S H locs ls hP hS hl hf
      cases hf
    | succ n ih71 =>
      intro x1 S H locs ls hP hS hl hf
      have hf : bX6_readsText_71  (lp (fun k q => bX6_readsText_71  k q.1 q.2) n) x1 S = some (r, S') := hf
      generalize lp (fun k q => bX6_readsText_71  k q.1 q.2) n = k71 at hf ih71
      unfold bX6_readsText_71 at hf
      refine lv_aload_n hx hb dX6_readsText_71 rfl (lv_at hl 0 rfl) ?_
      refine gfX6_12 hx hb hts (fun _ h => List.mem_cons_of_mem _ (List.mem_append_right _ h)) hown hK hP (hts (Cond.fieldLink RX6 103 "WhoSpeaksModel" "place" "I") (List.mem_of_getElem? (i := 1) rfl)) dX6_readsText_72 ?_
      refine lv_aload_n hx hb dX6_readsText_75 rfl (lv_at hl 0 rfl) ?_
      refine gfX6_4 hx hb hts (fun _ h => List.mem_cons_of_mem _ (List.mem_append_right _ h)) hown hK hP (hts (Cond.fieldLink RX6 96 "WhoSpeaksModel" "taped" "I") (List.mem_of_getElem? (i := 4) rfl)) dX6_readsText_76 ?_
      refine lv_icmp_ge (tgt := 92) hx hb dX6_readsText_79 (by decide) (fun c40 => ?_) (fun c40 => ?_)
      · have hf := (if_pos c40).symm.trans hf
        refine lv_aload_n hx hb dX6_readsText_92 rfl (lv_at hl 0 rfl) ?_
        refine gfX6_6 hx hb hts (fun _ h => List.mem_cons_of_mem _ (List.mem_append_right _ h)) hown hK hP (hts (Cond.fieldLink RX6 20 "WhoSpeaksModel" "itemsOf" "[I") (List.mem_of_getElem? (i := 2) rfl)) dX6_readsText_93 ?_
        refine lv_iload_n hx hb dX6_readsText_96 rfl (lv_at hl 1 rfl) ?_
        obtain ⟨c41, hf⟩ := ck_some hf
        refine alM3 hx hb hK hP c41 dX6_readsText_97 ?_
        refine lv_if_le (tgt := 122) hx hb dX6_readsText_98 (by decide) (fun c42 => ?_) (fun c42 => ?_)
        · have hf := (if_pos c42).symm.trans hf
          refine lv_iconst (v := 0) hx hb dX6_readsText_122 (by decide) ?_
          obtain ⟨he, hS9⟩ := Prod.mk.inj (Option.some.inj hf)
          subst hS9
          exact rZ hx hb hr (bi_nar false) hP hS (congrArg bi he) hlocks dX6_readsText_123
        · have hf := (if_neg c42).symm.trans hf
          refine lv_aload_n hx hb dX6_readsText_101 rfl (lv_at hl 0 rfl) ?_
          refine gfX6_9 hx hb hts (fun _ h => List.mem_cons_of_mem _ (List.mem_append_right _ h)) hown hK hP (hts (Cond.fieldLink RX6 29 "WhoSpeaksModel" "goesOn" "[Z") (List.mem_of_getElem? (i := 3) rfl)) dX6_readsText_102 ?_
          refine lv_iload_n hx hb dX6_readsText_105 rfl (lv_at hl 1 rfl) ?_
          obtain ⟨c43, hf⟩ := ck_some hf
          refine alM6 hx hb hK hP c43 dX6_readsText_106 ?_
          refine lv_if_eq (tgt := 118) hx hb dX6_readsText_107 (by decide) (fun c44 => ?_) (fun c44 => ?_)
          · have hf := (if_pos c44).symm.trans hf
            refine lv_iconst (v := 1) hx hb dX6_readsText_118 (by decide) ?_
            refine lv_goto (tgt := 123) hx hb dX6_readsText_119 (by decide) ?_
            obtain ⟨he, hS9⟩ := Prod.mk.inj (Option.some.inj hf)
            subst hS9
            exact rZ hx hb hr (bi_nar true) hP hS (congrArg bi he) hlocks dX6_readsText_123
          · have hf := (if_neg c44).symm.trans hf
            refine lv_aload_n hx hb dX6_readsText_110 rfl (lv_at hl 0 rfl) ?_
            refine lv_iload_n hx hb dX6_readsText_111 rfl (lv_at hl 1 rfl) ?_
            obtain ⟨r45, h46, hf⟩ := ob1_some hf
            refine kVi (As := [.int x1]) (rest := []) ⟨hx, hb, hml, hown, hts⟩ (okX6_speaks l D cy ad A hD x1 S r45 h46) (cwV 1 hts gX6_readsText_X6_speaks rfl rfl rfl (by decide +kernel) ⟨Nat.le_of_ble_eq_true rfl, Nat.le_of_ble_eq_true rfl⟩) hK hP hS (va_recv hK.1 hP (ci := 6) (q := (RX6, TX6, 21)) rfl (atM0 cy ad S)) rfl hl.1 rfl (Nat.le_of_ble_eq_true rfl) dX6_readsText_112 (fun H locs hP hS => ?_)
            refine lv_if_eq (tgt := 122) hx hb dX6_readsText_115 (by decide) (fun c47 => ?_) (fun c47 => ?_)
            · have hf := (if_pos c47).symm.trans hf
              refine lv_iconst (v := 0) hx hb dX6_readsText_122 (by decide) ?_
              obtain ⟨he, hS9⟩ := Prod.mk.inj (Option.some.inj hf)
              subst hS9
              exact rZ hx hb hr (bi_nar false) hP hS (congrArg bi he) hlocks dX6_readsText_123
            · have hf := (if_neg c47).symm.trans hf
              refine lv_iconst (v := 1) hx hb dX6_readsText_118 (by decide) ?_
              refine lv_goto (tgt := 123) hx hb dX6_readsText_119 (by decide) ?_
              obtain ⟨he, hS9⟩ := Prod.mk.inj (Option.some.inj hf)
              subst hS9
              exact rZ hx hb hr (bi_nar true) hP hS (congrArg bi he) hlocks dX6_readsText_123
      · have hf := (if_neg c40).symm.trans hf
        refine lv_aload_n hx hb dX6_readsText_82 rfl (lv_at hl 0 rfl) ?_
        refine lv_iload_n hx hb dX6_readsText_83 rfl (lv_at hl 1 rfl) ?_
        obtain ⟨r48, S50, h49, hf⟩ := ob2_some hf
        refine kVi (As := [.int x1]) (rest := []) ⟨hx, hb, hml, hown, hts⟩ (okX6_readsItem l D cy ad A hD x1 S r48 S50 h49) (cwV 1 hts gX6_readsText_X6_readsItem rfl rfl rfl (by decide +kernel) ⟨Nat.le_of_ble_eq_true rfl, Nat.le_of_ble_eq_true rfl⟩) hK hP hS (va_recv hK.1 hP (ci := 6) (q := (RX6, TX6, 21)) rfl (atM0 cy ad S)) rfl hl.1 rfl (Nat.le_of_ble_eq_true rfl) dX6_readsText_84 (fun H locs hP hS => ?_)
        refine lv_if_ne (tgt := 71) hx hb dX6_readsText_87 (by decide) (fun c51 => ?_) (fun c51 => ?_)
        · have hf := (if_neg c51).symm.trans hf
          exact ih71 (x1) S50 H locs ls hP hS (lv_sub hl [0, 1] rfl) hf
        · have hf := (if_pos c51).symm.trans hf
          refine lv_iconst (v := 0) hx hb dX6_readsText_90 (by decide) ?_
          obtain ⟨he, hS9⟩ := Prod.mk.inj (Option.some.inj hf)
          subst hS9
          exact rZ hx hb hr (bi_nar false) hP hS (congrArg bi he) hlocks dX6_readsText_91
  have K40 : ∀ (x1 : Int32) (s1 : Int32) (s2 : Bool) (S : MS) (H : Heap) (locs : List Loc) (ls : Array Slot), va_P D vwCl (wM cy ad S) H → va_S A s.heap H locs → lv_has ls 2 [(0, .ref (ad 0)), (1, .int x1)] → bX6_readsText_40  x1 s1 s2 S = some (r, S') → W p l e (headSpec wsX6_readsText { frames := 4, cells := 0, slots := 0, locals := 86 }).room s m args below meth c H locs 0 0 (MQ below (QcI D A (bi r) (wM cy ad S')) args s 0 0 A) (F0 m 40 ls [.int (bi s2), .int s1, .ref (ad 6)]) := by
    intro  x1 s1 s2 S H locs ls hP hS hl hf
    unfold bX6_readsText_40 at hf
    obtain ⟨c53, hf⟩ := ck_some hf
    refine asM6 (v := (bi s2)) (bi_vp s2) hx hb hK hP hD hS c53 dX6_readsText_40 (fun S52 eS52 H locs hP hS => ?_)
    have hf := bnd_of eS52 hf
    refine lv_aload_n hx hb dX6_readsText_41 rfl (lv_at hl 0 rfl) ?_
    refine gfX6_9 hx hb hts (fun _ h => List.mem_cons_of_mem _ (List.mem_append_right _ h)) hown hK hP (hts (Cond.fieldLink RX6 29 "WhoSpeaksModel" "goesOn" "[Z") (List.mem_of_getElem? (i := 3) rfl)) dX6_readsText_42 ?_
    refine lv_iload_n hx hb dX6_readsText_45 rfl (lv_at hl 1 rfl) ?_
    obtain ⟨c54, hf⟩ := ck_some hf
    refine alM6 hx hb hK hP c54 dX6_readsText_46 ?_
    refine lv_if_eq (tgt := 71) hx hb dX6_readsText_47 (by decide) (fun c55 => ?_) (fun c55 => ?_)
    · have hf := (if_pos c55).symm.trans hf
      exact K71  FU (x1) S52 H locs ls hP hS (lv_sub hl [0, 1] rfl) hf
    · have hf := (if_neg c55).symm.trans hf
      refine lv_iload_n hx hb dX6_readsText_50 rfl (lv_at hl 1 rfl) ?_
      refine lv_if_eq (tgt := 64) hx hb dX6_readsText_51 (by decide) (fun c56 => ?_) (fun c56 => ?_)
      · have hf := (if_pos c56).symm.trans hf
        refine lv_iconst (v := 0) hx hb dX6_readsText_64 (by decide) ?_
        obtain ⟨he, hS9⟩ := Prod.mk.inj (Option.some.inj hf)
        subst hS9
        exact rZ hx hb hr (bi_nar false) hP hS (congrArg bi he) hlocks dX6_readsText_65
      · have hf := (if_neg c56).symm.trans hf
        refine lv_aload_n hx hb dX6_readsText_54 rfl (lv_at hl 0 rfl) ?_
        refine lv_iload_n hx hb dX6_readsText_55 rfl (lv_at hl 1 rfl) ?_
        refine lv_iconst (v := 1) hx hb dX6_readsText_56 (by decide) ?_
        refine lv_isub hx hb dX6_readsText_57 ?_
        obtain ⟨r57, h58, hf⟩ := ob1_some hf
        refine kVi (As := [.int (x1 - 1)]) (rest := []) ⟨hx, hb, hml, hown, hts⟩ (okX6_speaks l D cy ad A hD (x1 - 1) S52 r57 h58) (cwV 1 hts gX6_readsText_X6_speaks rfl rfl rfl (by decide +kernel) ⟨Nat.le_of_ble_eq_true rfl, Nat.le_of_ble_eq_true rfl⟩) hK hP hS (va_recv hK.1 hP (ci := 6) (q := (RX6, TX6, 21)) rfl (atM0 cy ad S52)) rfl hl.1 rfl (Nat.le_of_ble_eq_true rfl) dX6_readsText_58 (fun H locs hP hS => ?_)
        refine lv_if_ne (tgt := 66) hx hb dX6_readsText_61 (by decide) (fun c59 => ?_) (fun c59 => ?_)
        · have hf := (if_neg c59).symm.trans hf
          refine lv_aload_n hx hb dX6_readsText_66 rfl (lv_at hl 0 rfl) ?_
          refine lv_iconst (v := 1) hx hb dX6_readsText_67 (by decide) ?_
          refine pfX6_12 (v := 1) hx hb hts (fun _ h => List.mem_cons_of_mem _ (List.mem_append_right _ h)) hown hK hP hD hS (hts (Cond.fieldLink RX6 103 "WhoSpeaksModel" "place" "I") (List.mem_of_getElem? (i := 1) rfl)) dX6_readsText_68 (fun S60 eS60 H locs hP hS => ?_)
          have hf := bnd_of eS60 hf
          exact K71  FU (x1) S60 H locs ls hP hS (lv_sub hl [0, 1] rfl) hf
        · have hf := (if_pos c59).symm.trans hf
          refine lv_iconst (v := 0) hx hb dX6_readsText_64 (by decide) ?_
          obtain ⟨he, hS9⟩ := Prod.mk.inj (Option.some.inj hf)
          subst hS9
          exact rZ hx hb hr (bi_nar false) hP hS (congrArg bi he) hlocks dX6_readsText_65
  unfold fX6_readsText at hf
  suffices hG : ∀ (H : Heap) (locs : List Loc), va_P D vwCl (wM cy ad S) H → va_S A s.heap H locs → W p l e (headSpec wsX6_readsText { frames := 4, cells := 0, slots := 0, locals := 86 }).room s m args below meth c H locs 0 0 (MQ below (QcI D A (bi r) (wM cy ad S')) args s 0 0 A) (F0 m 0 ls []) by exact hG s.heap [] hP va_S.rf
  clear hP hS
  intro H locs hP hS
  refine lv_aload_n hx hb dX6_readsText_0 rfl (lv_at hl 0 rfl) ?_
  refine lv_iconst (v := 0) hx hb dX6_readsText_1 (by decide) ?_
  refine pfX6_12 (v := 0) hx hb hts (fun _ h => List.mem_cons_of_mem _ (List.mem_append_right _ h)) hown hK hP hD hS (hts (Cond.fieldLink RX6 103 "WhoSpeaksModel" "place" "I") (List.mem_of_getElem? (i := 1) rfl)) dX6_readsText_2 (fun S61 eS61 H locs hP hS => ?_)
  have hf := bnd_of eS61 hf
  refine lv_aload_n hx hb dX6_readsText_5 rfl (lv_at hl 0 rfl) ?_
  refine gfX6_6 hx hb hts (fun _ h => List.mem_cons_of_mem _ (List.mem_append_right _ h)) hown hK hP (hts (Cond.fieldLink RX6 20 "WhoSpeaksModel" "itemsOf" "[I") (List.mem_of_getElem? (i := 2) rfl)) dX6_readsText_6 ?_
  refine lv_iload_n hx hb dX6_readsText_9 rfl (lv_at hl 1 rfl) ?_
  refine lv_iconst (v := 0) hx hb dX6_readsText_10 (by decide) ?_
  obtain ⟨c63, hf⟩ := ck_some hf
  refine asM3 (v := 0) hx hb hK hP hD hS c63 dX6_readsText_11 (fun S62 eS62 H locs hP hS => ?_)
  have hf := bnd_of eS62 hf
  refine lv_aload_n hx hb dX6_readsText_12 rfl (lv_at hl 0 rfl) ?_
  refine gfX6_9 hx hb hts (fun _ h => List.mem_cons_of_mem _ (List.mem_append_right _ h)) hown hK hP (hts (Cond.fieldLink RX6 29 "WhoSpeaksModel" "goesOn" "[Z") (List.mem_of_getElem? (i := 3) rfl)) dX6_readsText_13 ?_
  refine lv_iload_n hx hb dX6_readsText_16 rfl (lv_at hl 1 rfl) ?_
  refine lv_aload_n hx hb dX6_readsText_17 rfl (lv_at hl 0 rfl) ?_
  refine gfX6_4 hx hb hts (fun _ h => List.mem_cons_of_mem _ (List.mem_append_right _ h)) hown hK hP (hts (Cond.fieldLink RX6 96 "WhoSpeaksModel" "taped" "I") (List.mem_of_getElem? (i := 4) rfl)) dX6_readsText_18 ?_
  refine lv_if_le (tgt := 39) hx hb dX6_readsText_21 (by decide) (fun c64 => ?_) (fun c64 => ?_)
  · have hf := (if_pos c64).symm.trans hf
    refine lv_iconst (v := 0) hx hb dX6_readsText_39 (by decide) ?_
    exact K40  (p0) (p0) (false) S62 H locs ls hP hS (lv_sub hl [0, 1] rfl) hf
  · have hf := (if_neg c64).symm.trans hf
    refine lv_aload_n hx hb dX6_readsText_24 rfl (lv_at hl 0 rfl) ?_
    refine gfX6_3 hx hb hts (fun _ h => List.mem_cons_of_mem _ (List.mem_append_right _ h)) hown hK hP (hts (Cond.fieldLink RX6 17 "WhoSpeaksModel" "tape" "[I") (List.mem_of_getElem? (i := 5) rfl)) dX6_readsText_25 ?_
    refine lv_iconst (v := 0) hx hb dX6_readsText_28 (by decide) ?_
    obtain ⟨c65, hf⟩ := ck_some hf
    refine alM2 hx hb hK hP c65 dX6_readsText_29 ?_
    refine lv_bipush (v := 43) hx hb dX6_readsText_30 (by decide) ?_
    refine lv_icmp_ne (tgt := 39) hx hb dX6_readsText_32 (by decide) (fun c66 => ?_) (fun c66 => ?_)
    · have hf := (if_neg c66).symm.trans hf
      refine lv_iconst (v := 0) hx hb dX6_readsText_39 (by decide) ?_
      exact K40  (p0) (p0) (false) S62 H locs ls hP hS (lv_sub hl [0, 1] rfl) hf
    · have hf := (if_pos c66).symm.trans hf
      refine lv_iconst (v := 1) hx hb dX6_readsText_35 (by decide) ?_
      refine lv_goto (tgt := 40) hx hb dX6_readsText_36 (by decide) ?_
      exact K40  (p0) (p0) (true) S62 H locs ls hP hS (lv_sub hl [0, 1] rfl) hf

def fX6_paragraph  (S : MS) : Option (Int32 × MS) := (bnd ((mi S 3)) (fun y10 => (if y10 = 16 then (some ((-4), S)) else (ob2 (fX6_readsText y10 S) (fun r12 S14 => (if (bi r12) = 0 then (some (((-100) - (mi S14 4)), S14)) else (ck y10 16 (bnd (maW S14 7 y10.toNatClampNeg (mi S14 0)) (fun S16 => (ck y10 16 (bnd (maW S16 8 y10.toNatClampNeg (-9)) (fun S18 => (bnd (miW S18 2 0) (fun S20 => (bnd (miW S20 3 ((mi S20 3) + 1)) (fun S21 => (some (y10, S21))))))))))))))))))
set_option maxHeartbeats 4000000 in
set_option maxRecDepth 100000 in
theorem okX6_paragraph (l : Launch) (D : va_G) (cy : Nat → ClassId) (ad : Nat → Nat) (A : Nat → Prop) (hD : ∀ S, va_D A (wM cy ad S))  (S : MS) (r : Int32) (S' : MS) (hf : fX6_paragraph  S = some (r, S')) : MI l yX6_paragraph wsX6_paragraph { frames := 5, cells := 0, slots := 0, locals := 107 } D cy A (wM cy ad S) [.ref (ad 0)] r (wM cy ad S') := by
  refine Met.ofW (cc := cX6_paragraph) (maxL := 2) (ret := (some .int)) (by decide) rfl ?_
  intro p e s m args below meth c s₁ B hml hv
  obtain ⟨ha, hP, hK⟩ := hv
  have hx := B.exec
  have hb := B.bytes
  have hr := B.returns
  have hts := atoms_spec (ws := wsX6_paragraph) B.pre
  have hown : s.vm.findClass RX6 = some m.cls := findClass_of_methodNamed B.named
  have hlocks := B.notSynchronized
  have hS : va_S A s.heap s.heap [] := va_S.rf
  obtain ⟨ls, hl, he0⟩ := ent (m := m) ha (n := 2) (Nat.le_of_ble_eq_true rfl)
  refine W.eq he0 ?_
  have hl : lv_has ls 2 [(0, .ref (ad 0))] := hl
  unfold fX6_paragraph at hf
  suffices hG : ∀ (H : Heap) (locs : List Loc), va_P D vwCl (wM cy ad S) H → va_S A s.heap H locs → W p l e (headSpec wsX6_paragraph { frames := 5, cells := 0, slots := 0, locals := 107 }).room s m args below meth c H locs 0 0 (MQ below (QcI D A r (wM cy ad S')) args s 0 0 A) (F0 m 0 ls []) by exact hG s.heap [] hP va_S.rf
  clear hP hS
  intro H locs hP hS
  refine lv_aload_n hx hb dX6_paragraph_0 rfl (lv_at hl 0 rfl) ?_
  refine gfX6_5 hx hb hts (fun _ h => List.mem_cons_of_mem _ (List.mem_append_right _ h)) hown hK hP (hts (Cond.fieldLink RX6 68 "WhoSpeaksModel" "paragraphs" "I") (List.mem_of_getElem? (i := 1) rfl)) dX6_paragraph_1 ?_
  refine lv_topi (fun y10 ey10 => ?_)
  have hf := bnd_of ey10 hf
  refine lv_istore_n (lv' := [(1, .int y10), (0, .ref (ad 0))]) hx hb dX6_paragraph_4 rfl hl (by decide) rfl (fun ls hl => ?_)
  refine lv_iload_n hx hb dX6_paragraph_5 rfl (lv_at hl 0 rfl) ?_
  refine lv_bipush (v := 16) hx hb dX6_paragraph_6 (by decide) ?_
  refine lv_icmp_ne (tgt := 14) hx hb dX6_paragraph_8 (by decide) (fun c11 => ?_) (fun c11 => ?_)
  · have hf := (if_neg c11).symm.trans hf
    refine lv_aload_n hx hb dX6_paragraph_14 rfl (lv_at hl 1 rfl) ?_
    refine lv_iload_n hx hb dX6_paragraph_15 rfl (lv_at hl 0 rfl) ?_
    obtain ⟨r12, S14, h13, hf⟩ := ob2_some hf
    refine kVi (As := [.int y10]) (rest := []) ⟨hx, hb, hml, hown, hts⟩ (okX6_readsText l D cy ad A hD y10 S r12 S14 h13) (cwV 1 hts gX6_paragraph_X6_readsText rfl rfl rfl (by decide +kernel) ⟨Nat.le_of_ble_eq_true rfl, Nat.le_of_ble_eq_true rfl⟩) hK hP hS (va_recv hK.1 hP (ci := 6) (q := (RX6, TX6, 21)) rfl (atM0 cy ad S)) rfl hl.1 rfl (Nat.le_of_ble_eq_true rfl) dX6_paragraph_16 (fun H locs hP hS => ?_)
    refine lv_if_ne (tgt := 30) hx hb dX6_paragraph_19 (by decide) (fun c15 => ?_) (fun c15 => ?_)
    · have hf := (if_neg c15).symm.trans hf
      refine lv_aload_n hx hb dX6_paragraph_30 rfl (lv_at hl 1 rfl) ?_
      refine gfX6_10 hx hb hts (fun _ h => List.mem_cons_of_mem _ (List.mem_append_right _ h)) hown hK hP (hts (Cond.fieldLink RX6 33 "WhoSpeaksModel" "wereHere" "[I") (List.mem_of_getElem? (i := 3) rfl)) dX6_paragraph_31 ?_
      refine lv_iload_n hx hb dX6_paragraph_34 rfl (lv_at hl 0 rfl) ?_
      refine lv_aload_n hx hb dX6_paragraph_35 rfl (lv_at hl 1 rfl) ?_
      refine gfX6_1 hx hb hts (fun _ h => List.mem_cons_of_mem _ (List.mem_append_right _ h)) hown hK hP (hts (Cond.fieldLink RX6 89 "WhoSpeaksModel" "here" "I") (List.mem_of_getElem? (i := 4) rfl)) dX6_paragraph_36 ?_
      obtain ⟨c17, hf⟩ := ck_some hf
      refine asM7 (v := (mi S14 0)) hx hb hK hP hD hS c17 dX6_paragraph_39 (fun S16 eS16 H locs hP hS => ?_)
      have hf := bnd_of eS16 hf
      refine lv_aload_n hx hb dX6_paragraph_40 rfl (lv_at hl 1 rfl) ?_
      refine gfX6_11 hx hb hts (fun _ h => List.mem_cons_of_mem _ (List.mem_append_right _ h)) hown hK hP (hts (Cond.fieldLink RX6 36 "WhoSpeaksModel" "hintOf" "[I") (List.mem_of_getElem? (i := 5) rfl)) dX6_paragraph_41 ?_
      refine lv_iload_n hx hb dX6_paragraph_44 rfl (lv_at hl 0 rfl) ?_
      refine lv_bipush (v := (-9)) hx hb dX6_paragraph_45 (by decide) ?_
      obtain ⟨c19, hf⟩ := ck_some hf
      refine asM8 (v := (-9)) hx hb hK hP hD hS c19 dX6_paragraph_47 (fun S18 eS18 H locs hP hS => ?_)
      have hf := bnd_of eS18 hf
      refine lv_aload_n hx hb dX6_paragraph_48 rfl (lv_at hl 1 rfl) ?_
      refine lv_iconst (v := 0) hx hb dX6_paragraph_49 (by decide) ?_
      refine pfX6_4 (v := 0) hx hb hts (fun _ h => List.mem_cons_of_mem _ (List.mem_append_right _ h)) hown hK hP hD hS (hts (Cond.fieldLink RX6 96 "WhoSpeaksModel" "taped" "I") (List.mem_of_getElem? (i := 6) rfl)) dX6_paragraph_50 (fun S20 eS20 H locs hP hS => ?_)
      have hf := bnd_of eS20 hf
      refine lv_aload_n hx hb dX6_paragraph_53 rfl (lv_at hl 1 rfl) ?_
      refine lv_dup hx hb dX6_paragraph_54 rfl ?_
      refine gfX6_5 hx hb hts (fun _ h => List.mem_cons_of_mem _ (List.mem_append_right _ h)) hown hK hP (hts (Cond.fieldLink RX6 68 "WhoSpeaksModel" "paragraphs" "I") (List.mem_of_getElem? (i := 1) rfl)) dX6_paragraph_55 ?_
      refine lv_iconst (v := 1) hx hb dX6_paragraph_58 (by decide) ?_
      refine lv_iadd hx hb dX6_paragraph_59 ?_
      refine pfX6_5 (v := ((mi S20 3) + 1)) hx hb hts (fun _ h => List.mem_cons_of_mem _ (List.mem_append_right _ h)) hown hK hP hD hS (hts (Cond.fieldLink RX6 68 "WhoSpeaksModel" "paragraphs" "I") (List.mem_of_getElem? (i := 1) rfl)) dX6_paragraph_60 (fun S21 eS21 H locs hP hS => ?_)
      have hf := bnd_of eS21 hf
      refine lv_iload_n hx hb dX6_paragraph_63 rfl (lv_at hl 0 rfl) ?_
      obtain ⟨he, hS9⟩ := Prod.mk.inj (Option.some.inj hf)
      subst hS9
      exact rI hx hb hr hP hS he hlocks dX6_paragraph_64
    · have hf := (if_pos c15).symm.trans hf
      refine lv_bipush (v := (-100)) hx hb dX6_paragraph_22 (by decide) ?_
      refine lv_aload_n hx hb dX6_paragraph_24 rfl (lv_at hl 1 rfl) ?_
      refine gfX6_12 hx hb hts (fun _ h => List.mem_cons_of_mem _ (List.mem_append_right _ h)) hown hK hP (hts (Cond.fieldLink RX6 103 "WhoSpeaksModel" "place" "I") (List.mem_of_getElem? (i := 2) rfl)) dX6_paragraph_25 ?_
      refine lv_isub hx hb dX6_paragraph_28 ?_
      obtain ⟨he, hS9⟩ := Prod.mk.inj (Option.some.inj hf)
      subst hS9
      exact rI hx hb hr hP hS he hlocks dX6_paragraph_29
  · have hf := (if_pos c11).symm.trans hf
    refine lv_bipush (v := (-4)) hx hb dX6_paragraph_11 (by decide) ?_
    obtain ⟨he, hS9⟩ := Prod.mk.inj (Option.some.inj hf)
    subst hS9
    exact rI hx hb hr hP hS he hlocks dX6_paragraph_13

def fX6_cut  (S : MS) : Option (Int32 × MS) := (if (mi S 3) = 0 then (some ((-3), S)) else (bnd (miW S 3 ((mi S 3) - 1)) (fun S4 => (some ((mi S4 3), S4)))))
set_option maxHeartbeats 4000000 in
set_option maxRecDepth 100000 in
theorem okX6_cut (l : Launch) (D : va_G) (cy : Nat → ClassId) (ad : Nat → Nat) (A : Nat → Prop) (hD : ∀ S, va_D A (wM cy ad S))  (S : MS) (r : Int32) (S' : MS) (hf : fX6_cut  S = some (r, S')) : MI l yX6_cut wsX6_cut { frames := 0, cells := 0, slots := 0, locals := 0 } D cy A (wM cy ad S) [.ref (ad 0)] r (wM cy ad S') := by
  refine Met.ofW (cc := cX6_cut) (maxL := 1) (ret := (some .int)) (by decide) rfl ?_
  intro p e s m args below meth c s₁ B hml hv
  obtain ⟨ha, hP, hK⟩ := hv
  have hx := B.exec
  have hb := B.bytes
  have hr := B.returns
  have hts := atoms_spec (ws := wsX6_cut) B.pre
  have hown : s.vm.findClass RX6 = some m.cls := findClass_of_methodNamed B.named
  have hlocks := B.notSynchronized
  have hS : va_S A s.heap s.heap [] := va_S.rf
  obtain ⟨ls, hl, he0⟩ := ent (m := m) ha (n := 1) (Nat.le_of_ble_eq_true rfl)
  refine W.eq he0 ?_
  have hl : lv_has ls 1 [(0, .ref (ad 0))] := hl
  unfold fX6_cut at hf
  suffices hG : ∀ (H : Heap) (locs : List Loc), va_P D vwCl (wM cy ad S) H → va_S A s.heap H locs → W p l e (headSpec wsX6_cut { frames := 0, cells := 0, slots := 0, locals := 0 }).room s m args below meth c H locs 0 0 (MQ below (QcI D A r (wM cy ad S')) args s 0 0 A) (F0 m 0 ls []) by exact hG s.heap [] hP va_S.rf
  clear hP hS
  intro H locs hP hS
  refine lv_aload_n hx hb dX6_cut_0 rfl (lv_at hl 0 rfl) ?_
  refine gfX6_5 hx hb hts (fun _ h => List.mem_cons_of_mem _ (List.mem_append_right _ h)) hown hK hP (hts (Cond.fieldLink RX6 68 "WhoSpeaksModel" "paragraphs" "I") (List.mem_of_getElem? (i := 1) rfl)) dX6_cut_1 ?_
  refine lv_if_ne (tgt := 10) hx hb dX6_cut_4 (by decide) (fun c3 => ?_) (fun c3 => ?_)
  · have hf := (if_neg c3).symm.trans hf
    refine lv_aload_n hx hb dX6_cut_10 rfl (lv_at hl 0 rfl) ?_
    refine lv_dup hx hb dX6_cut_11 rfl ?_
    refine gfX6_5 hx hb hts (fun _ h => List.mem_cons_of_mem _ (List.mem_append_right _ h)) hown hK hP (hts (Cond.fieldLink RX6 68 "WhoSpeaksModel" "paragraphs" "I") (List.mem_of_getElem? (i := 1) rfl)) dX6_cut_12 ?_
    refine lv_iconst (v := 1) hx hb dX6_cut_15 (by decide) ?_
    refine lv_isub hx hb dX6_cut_16 ?_
    refine pfX6_5 (v := ((mi S 3) - 1)) hx hb hts (fun _ h => List.mem_cons_of_mem _ (List.mem_append_right _ h)) hown hK hP hD hS (hts (Cond.fieldLink RX6 68 "WhoSpeaksModel" "paragraphs" "I") (List.mem_of_getElem? (i := 1) rfl)) dX6_cut_17 (fun S4 eS4 H locs hP hS => ?_)
    have hf := bnd_of eS4 hf
    refine lv_aload_n hx hb dX6_cut_20 rfl (lv_at hl 0 rfl) ?_
    refine gfX6_5 hx hb hts (fun _ h => List.mem_cons_of_mem _ (List.mem_append_right _ h)) hown hK hP (hts (Cond.fieldLink RX6 68 "WhoSpeaksModel" "paragraphs" "I") (List.mem_of_getElem? (i := 1) rfl)) dX6_cut_21 ?_
    obtain ⟨he, hS9⟩ := Prod.mk.inj (Option.some.inj hf)
    subst hS9
    exact rI hx hb hr hP hS he hlocks dX6_cut_24
  · have hf := (if_pos c3).symm.trans hf
    refine lv_bipush (v := (-3)) hx hb dX6_cut_7 (by decide) ?_
    obtain ⟨he, hS9⟩ := Prod.mk.inj (Option.some.inj hf)
    subst hS9
    exact rI hx hb hr hP hS he hlocks dX6_cut_9

def fX6_isParagraph (p0 : Int32) (S : MS) : Bool := (fX6_within p0 0 ((mi S 3) - 1))
set_option maxHeartbeats 4000000 in
set_option maxRecDepth 100000 in
theorem okX6_isParagraph (l : Launch) (D : va_G) (cy : Nat → ClassId) (ad : Nat → Nat) (A : Nat → Prop) (hD : ∀ S, va_D A (wM cy ad S)) (p0 : Int32) (S : MS) (r : Bool) (hf : fX6_isParagraph p0 S = r) : MI l yX6_isParagraph wsX6_isParagraph { frames := 1, cells := 0, slots := 0, locals := 22 } D cy A (wM cy ad S) [.ref (ad 0), .int p0] (bi r) (wM cy ad S) := by
  refine Met.ofW (cc := cX6_isParagraph) (maxL := 2) (ret := (some .boolean)) (by decide) rfl ?_
  intro p e s m args below meth c s₁ B hml hv
  obtain ⟨ha, hP, hK⟩ := hv
  have hx := B.exec
  have hb := B.bytes
  have hr := B.returns
  have hts := atoms_spec (ws := wsX6_isParagraph) B.pre
  have hown : s.vm.findClass RX6 = some m.cls := findClass_of_methodNamed B.named
  have hlocks := B.notSynchronized
  have hS : va_S A s.heap s.heap [] := va_S.rf
  obtain ⟨ls, hl, he0⟩ := ent (m := m) ha (n := 2) (Nat.le_of_ble_eq_true rfl)
  refine W.eq he0 ?_
  have hl : lv_has ls 2 [(0, .ref (ad 0)), (1, .int p0)] := hl
  unfold fX6_isParagraph at hf
  suffices hG : ∀ (H : Heap) (locs : List Loc), va_P D vwCl (wM cy ad S) H → va_S A s.heap H locs → W p l e (headSpec wsX6_isParagraph { frames := 1, cells := 0, slots := 0, locals := 22 }).room s m args below meth c H locs 0 0 (MQ below (QcI D A (bi r) (wM cy ad S)) args s 0 0 A) (F0 m 0 ls []) by exact hG s.heap [] hP va_S.rf
  clear hP hS
  intro H locs hP hS
  refine lv_iload_n hx hb dX6_isParagraph_0 rfl (lv_at hl 1 rfl) ?_
  refine lv_iconst (v := 0) hx hb dX6_isParagraph_1 (by decide) ?_
  refine lv_aload_n hx hb dX6_isParagraph_2 rfl (lv_at hl 0 rfl) ?_
  refine gfX6_5 hx hb hts (fun _ h => List.mem_cons_of_mem _ (List.mem_append_right _ h)) hown hK hP (hts (Cond.fieldLink RX6 68 "WhoSpeaksModel" "paragraphs" "I") (List.mem_of_getElem? (i := 1) rfl)) dX6_isParagraph_3 ?_
  refine lv_iconst (v := 1) hx hb dX6_isParagraph_6 (by decide) ?_
  refine lv_isub hx hb dX6_isParagraph_7 ?_
  refine kSi (As := [.int p0, .int 0, .int ((mi S 3) - 1)]) (rest := []) ⟨hx, hb, hml, hown, hts⟩ (okX6_within l D cy A (wM cy ad S) p0 0 ((mi S 3) - 1) _ rfl) (va_cwS 3 hts gX6_isParagraph_X6_within rfl rfl rfl (by decide +kernel) ⟨Nat.le_of_ble_eq_true rfl, Nat.le_of_ble_eq_true rfl⟩) hK hP hS rfl hl.1 rfl (Nat.le_of_ble_eq_true rfl) dX6_isParagraph_8 (fun H locs hP hS => ?_)
  have he := hf
  exact rZ hx hb hr (bi_nar (fX6_within p0 0 ((mi S 3) - 1))) hP hS (congrArg bi he) hlocks dX6_isParagraph_11

def fX6_ofParagraph (p0 : Int32) (p1 : Int32) (S : MS) : Option Int32 := (if (bi (fX6_isParagraph p0 S)) = 0 then (some (-1)) else (if p1 = 0 then (ck p0 16 (some (ma S 3 p0.toNatClampNeg))) else (if p1 = 1 then (ob1 (fX6_manyOf p0 0 S) (fun r12 => (some r12))) else (if p1 = 2 then (ck p0 16 (if (ma S 6 p0.toNatClampNeg) = 0 then (some 0) else (some 1))) else (if p1 = 3 then (ck p0 16 (some (ma S 7 p0.toNatClampNeg))) else (if p1 = 4 then (ob1 (fX6_manyCounting p0 S) (fun r20 => (some r20))) else (if p1 = 5 then (ck p0 16 (some (ma S 8 p0.toNatClampNeg))) else (some (-2)))))))))
set_option maxHeartbeats 4000000 in
set_option maxRecDepth 100000 in
theorem okX6_ofParagraph (l : Launch) (D : va_G) (cy : Nat → ClassId) (ad : Nat → Nat) (A : Nat → Prop) (hD : ∀ S, va_D A (wM cy ad S)) (p0 : Int32) (p1 : Int32) (S : MS) (r : Int32) (hf : fX6_ofParagraph p0 p1 S = some r) : MI l yX6_ofParagraph wsX6_ofParagraph { frames := 5, cells := 0, slots := 0, locals := 112 } D cy A (wM cy ad S) [.ref (ad 0), .int p0, .int p1] r (wM cy ad S) := by
  refine Met.ofW (cc := cX6_ofParagraph) (maxL := 3) (ret := (some .int)) (by decide) rfl ?_
  intro p e s m args below meth c s₁ B hml hv
  obtain ⟨ha, hP, hK⟩ := hv
  have hx := B.exec
  have hb := B.bytes
  have hr := B.returns
  have hts := atoms_spec (ws := wsX6_ofParagraph) B.pre
  have hown : s.vm.findClass RX6 = some m.cls := findClass_of_methodNamed B.named
  have hlocks := B.notSynchronized
  have hS : va_S A s.heap s.heap [] := va_S.rf
  obtain ⟨ls, hl, he0⟩ := ent (m := m) ha (n := 3) (Nat.le_of_ble_eq_true rfl)
  refine W.eq he0 ?_
  have hl : lv_has ls 3 [(0, .ref (ad 0)), (1, .int p0), (2, .int p1)] := hl
  unfold fX6_ofParagraph at hf
  suffices hG : ∀ (H : Heap) (locs : List Loc), va_P D vwCl (wM cy ad S) H → va_S A s.heap H locs → W p l e (headSpec wsX6_ofParagraph { frames := 5, cells := 0, slots := 0, locals := 112 }).room s m args below meth c H locs 0 0 (MQ below (QcI D A r (wM cy ad S)) args s 0 0 A) (F0 m 0 ls []) by exact hG s.heap [] hP va_S.rf
  clear hP hS
  intro H locs hP hS
  refine lv_aload_n hx hb dX6_ofParagraph_0 rfl (lv_at hl 0 rfl) ?_
  refine lv_iload_n hx hb dX6_ofParagraph_1 rfl (lv_at hl 1 rfl) ?_
  refine kVi (As := [.int p0]) (rest := []) ⟨hx, hb, hml, hown, hts⟩ (okX6_isParagraph l D cy ad A hD p0 S _ rfl) (cwV 1 hts gX6_ofParagraph_X6_isParagraph rfl rfl rfl (by decide +kernel) ⟨Nat.le_of_ble_eq_true rfl, Nat.le_of_ble_eq_true rfl⟩) hK hP hS (va_recv hK.1 hP (ci := 6) (q := (RX6, TX6, 21)) rfl (atM0 cy ad S)) rfl hl.1 rfl (Nat.le_of_ble_eq_true rfl) dX6_ofParagraph_2 (fun H locs hP hS => ?_)
  refine lv_if_ne (tgt := 10) hx hb dX6_ofParagraph_5 (by decide) (fun c8 => ?_) (fun c8 => ?_)
  · have hf := (if_neg c8).symm.trans hf
    refine lv_iload_n hx hb dX6_ofParagraph_10 rfl (lv_at hl 2 rfl) ?_
    by_cases c9 : p1 = 0
    · have hf := (if_pos c9).symm.trans hf
      refine lv_tableIn (off := 37) (tgt := 48) hx hb dX6_ofParagraph_11 (by rw [c9]; decide) (by rw [c9]; decide) (by rw [c9]; rfl) (by decide) ?_
      refine lv_aload_n hx hb dX6_ofParagraph_48 rfl (lv_at hl 0 rfl) ?_
      refine gfX6_6 hx hb hts (fun _ h => List.mem_cons_of_mem _ (List.mem_append_right _ h)) hown hK hP (hts (Cond.fieldLink RX6 20 "WhoSpeaksModel" "itemsOf" "[I") (List.mem_of_getElem? (i := 1) rfl)) dX6_ofParagraph_49 ?_
      refine lv_iload_n hx hb dX6_ofParagraph_52 rfl (lv_at hl 1 rfl) ?_
      obtain ⟨c10, hf⟩ := ck_some hf
      refine alM3 hx hb hK hP c10 dX6_ofParagraph_53 ?_
      have he := Option.some.inj hf
      exact rI hx hb hr hP hS he hlocks dX6_ofParagraph_54
    · have hf := (if_neg c9).symm.trans hf
      by_cases c11 : p1 = 1
      · have hf := (if_pos c11).symm.trans hf
        refine lv_tableIn (off := 44) (tgt := 55) hx hb dX6_ofParagraph_11 (by rw [c11]; decide) (by rw [c11]; decide) (by rw [c11]; rfl) (by decide) ?_
        refine lv_aload_n hx hb dX6_ofParagraph_55 rfl (lv_at hl 0 rfl) ?_
        refine lv_iload_n hx hb dX6_ofParagraph_56 rfl (lv_at hl 1 rfl) ?_
        refine lv_iconst (v := 0) hx hb dX6_ofParagraph_57 (by decide) ?_
        obtain ⟨r12, h13, hf⟩ := ob1_some hf
        refine kVi (As := [.int p0, .int 0]) (rest := []) ⟨hx, hb, hml, hown, hts⟩ (okX6_manyOf l D cy ad A hD p0 0 S r12 h13) (cwV 2 hts gX6_ofParagraph_X6_manyOf rfl rfl rfl (by decide +kernel) ⟨Nat.le_of_ble_eq_true rfl, Nat.le_of_ble_eq_true rfl⟩) hK hP hS (va_recv hK.1 hP (ci := 6) (q := (RX6, TX6, 21)) rfl (atM0 cy ad S)) rfl hl.1 rfl (Nat.le_of_ble_eq_true rfl) dX6_ofParagraph_58 (fun H locs hP hS => ?_)
        have he := Option.some.inj hf
        exact rI hx hb hr hP hS he hlocks dX6_ofParagraph_61
      · have hf := (if_neg c11).symm.trans hf
        by_cases c14 : p1 = 2
        · have hf := (if_pos c14).symm.trans hf
          refine lv_tableIn (off := 51) (tgt := 62) hx hb dX6_ofParagraph_11 (by rw [c14]; decide) (by rw [c14]; decide) (by rw [c14]; rfl) (by decide) ?_
          refine lv_aload_n hx hb dX6_ofParagraph_62 rfl (lv_at hl 0 rfl) ?_
          refine gfX6_9 hx hb hts (fun _ h => List.mem_cons_of_mem _ (List.mem_append_right _ h)) hown hK hP (hts (Cond.fieldLink RX6 29 "WhoSpeaksModel" "goesOn" "[Z") (List.mem_of_getElem? (i := 2) rfl)) dX6_ofParagraph_63 ?_
          refine lv_iload_n hx hb dX6_ofParagraph_66 rfl (lv_at hl 1 rfl) ?_
          obtain ⟨c15, hf⟩ := ck_some hf
          refine alM6 hx hb hK hP c15 dX6_ofParagraph_67 ?_
          refine lv_if_eq (tgt := 75) hx hb dX6_ofParagraph_68 (by decide) (fun c16 => ?_) (fun c16 => ?_)
          · have hf := (if_pos c16).symm.trans hf
            refine lv_iconst (v := 0) hx hb dX6_ofParagraph_75 (by decide) ?_
            have he := Option.some.inj hf
            exact rI hx hb hr hP hS he hlocks dX6_ofParagraph_76
          · have hf := (if_neg c16).symm.trans hf
            refine lv_iconst (v := 1) hx hb dX6_ofParagraph_71 (by decide) ?_
            refine lv_goto (tgt := 76) hx hb dX6_ofParagraph_72 (by decide) ?_
            have he := Option.some.inj hf
            exact rI hx hb hr hP hS he hlocks dX6_ofParagraph_76
        · have hf := (if_neg c14).symm.trans hf
          by_cases c17 : p1 = 3
          · have hf := (if_pos c17).symm.trans hf
            refine lv_tableIn (off := 66) (tgt := 77) hx hb dX6_ofParagraph_11 (by rw [c17]; decide) (by rw [c17]; decide) (by rw [c17]; rfl) (by decide) ?_
            refine lv_aload_n hx hb dX6_ofParagraph_77 rfl (lv_at hl 0 rfl) ?_
            refine gfX6_10 hx hb hts (fun _ h => List.mem_cons_of_mem _ (List.mem_append_right _ h)) hown hK hP (hts (Cond.fieldLink RX6 33 "WhoSpeaksModel" "wereHere" "[I") (List.mem_of_getElem? (i := 3) rfl)) dX6_ofParagraph_78 ?_
            refine lv_iload_n hx hb dX6_ofParagraph_81 rfl (lv_at hl 1 rfl) ?_
            obtain ⟨c18, hf⟩ := ck_some hf
            refine alM7 hx hb hK hP c18 dX6_ofParagraph_82 ?_
            have he := Option.some.inj hf
            exact rI hx hb hr hP hS he hlocks dX6_ofParagraph_83
          · have hf := (if_neg c17).symm.trans hf
            by_cases c19 : p1 = 4
            · have hf := (if_pos c19).symm.trans hf
              refine lv_tableIn (off := 73) (tgt := 84) hx hb dX6_ofParagraph_11 (by rw [c19]; decide) (by rw [c19]; decide) (by rw [c19]; rfl) (by decide) ?_
              refine lv_aload_n hx hb dX6_ofParagraph_84 rfl (lv_at hl 0 rfl) ?_
              refine lv_iload_n hx hb dX6_ofParagraph_85 rfl (lv_at hl 1 rfl) ?_
              obtain ⟨r20, h21, hf⟩ := ob1_some hf
              refine kVi (As := [.int p0]) (rest := []) ⟨hx, hb, hml, hown, hts⟩ (okX6_manyCounting l D cy ad A hD p0 S r20 h21) (cwV 1 hts gX6_ofParagraph_X6_manyCounting rfl rfl rfl (by decide +kernel) ⟨Nat.le_of_ble_eq_true rfl, Nat.le_of_ble_eq_true rfl⟩) hK hP hS (va_recv hK.1 hP (ci := 6) (q := (RX6, TX6, 21)) rfl (atM0 cy ad S)) rfl hl.1 rfl (Nat.le_of_ble_eq_true rfl) dX6_ofParagraph_86 (fun H locs hP hS => ?_)
              have he := Option.some.inj hf
              exact rI hx hb hr hP hS he hlocks dX6_ofParagraph_89
            · have hf := (if_neg c19).symm.trans hf
              by_cases c22 : p1 = 5
              · have hf := (if_pos c22).symm.trans hf
                refine lv_tableIn (off := 79) (tgt := 90) hx hb dX6_ofParagraph_11 (by rw [c22]; decide) (by rw [c22]; decide) (by rw [c22]; rfl) (by decide) ?_
                refine lv_aload_n hx hb dX6_ofParagraph_90 rfl (lv_at hl 0 rfl) ?_
                refine gfX6_11 hx hb hts (fun _ h => List.mem_cons_of_mem _ (List.mem_append_right _ h)) hown hK hP (hts (Cond.fieldLink RX6 36 "WhoSpeaksModel" "hintOf" "[I") (List.mem_of_getElem? (i := 4) rfl)) dX6_ofParagraph_91 ?_
                refine lv_iload_n hx hb dX6_ofParagraph_94 rfl (lv_at hl 1 rfl) ?_
                obtain ⟨c23, hf⟩ := ck_some hf
                refine alM8 hx hb hK hP c23 dX6_ofParagraph_95 ?_
                have he := Option.some.inj hf
                exact rI hx hb hr hP hS he hlocks dX6_ofParagraph_96
              · have hf := (if_neg c22).symm.trans hf
                refine lv_tableOut (tgt := 97) hx hb dX6_ofParagraph_11 (by have n0 := ne_toInt c9; have z0 : (0 : Int32).toInt = 0 := rfl; have n1 := ne_toInt c11; have z1 : (1 : Int32).toInt = 1 := rfl; have n2 := ne_toInt c14; have z2 : (2 : Int32).toInt = 2 := rfl; have n3 := ne_toInt c17; have z3 : (3 : Int32).toInt = 3 := rfl; have n4 := ne_toInt c19; have z4 : (4 : Int32).toInt = 4 := rfl; have n5 := ne_toInt c22; have z5 : (5 : Int32).toInt = 5 := rfl; omega) (by decide) ?_
                refine lv_bipush (v := (-2)) hx hb dX6_ofParagraph_97 (by decide) ?_
                have he := Option.some.inj hf
                exact rI hx hb hr hP hS he hlocks dX6_ofParagraph_99
  · have hf := (if_pos c8).symm.trans hf
    refine lv_iconst (v := (-1)) hx hb dX6_ofParagraph_8 (by decide) ?_
    have he := Option.some.inj hf
    exact rI hx hb hr hP hS he hlocks dX6_ofParagraph_9

def bX6_findOwn_32 (k2 : Int32 × MS → Option MS) (x1 : Int32) (s1 : Int32) (s2 : Int32) (S : MS) : Option MS := (ck s1 16 (bnd (maW S 9 s1.toNatClampNeg s2) (fun S19 => (k2 ((x1 + 1), S19)))))
def bX6_findOwn_2  (k2 : Int32 × MS → Option MS) (x1 : Int32) (S : MS) : Option MS := (if (mi S 3) ≤ x1 then (some S) else (ob1 (fX6_speaks x1 S) (fun r22 => (if (bi r22) = 0 then (bX6_findOwn_32 k2 (x1) (x1) (0) S) else (ob1 (fX6_ownOf x1 S) (fun r25 => (bX6_findOwn_32 k2 (x1) (x1) (r25) S)))))))
def fX6_findOwn  (S : MS) : Option MS := (lp (fun k q => bX6_findOwn_2  k q.1 q.2) FU (0, S))
set_option maxHeartbeats 4000000 in
set_option maxRecDepth 100000 in
theorem okX6_findOwn (l : Launch) (D : va_G) (cy : Nat → ClassId) (ad : Nat → Nat) (A : Nat → Prop) (hD : ∀ S, va_D A (wM cy ad S))  (S : MS) (S' : MS) (hf : fX6_findOwn  S = some S') : MV l yX6_findOwn wsX6_findOwn { frames := 6, cells := 0, slots := 0, locals := 136 } D cy A (wM cy ad S) [.ref (ad 0)] (wM cy ad S') := by
  refine Met.ofW (cc := cX6_findOwn) (maxL := 2) (ret := none) (by decide) rfl ?_
  intro p e s m args below meth c s₁ B hml hv
  obtain ⟨ha, hP, hK⟩ := hv
  have hx := B.exec
  have hb := B.bytes
  have hr := B.returns
  have hts := atoms_spec (ws := wsX6_findOwn) B.pre
  have hown : s.vm.findClass RX6 = some m.cls := findClass_of_methodNamed B.named
  have hlocks := B.notSynchronized
  have hS : va_S A s.heap s.heap [] := va_S.rf
  obtain ⟨ls, hl, he0⟩ := ent (m := m) ha (n := 2) (Nat.le_of_ble_eq_true rfl)
  refine W.eq he0 ?_
  have hl : lv_has ls 2 [(0, .ref (ad 0))] := hl
  have K32 : ∀ (k2 : Int32 × MS → Option MS), (∀ (x1 : Int32) (S : MS) (H : Heap) (locs : List Loc) (ls : Array Slot), va_P D vwCl (wM cy ad S) H → va_S A s.heap H locs → lv_has ls 2 [(0, .ref (ad 0)), (1, .int x1)] → k2 (x1, S) = some S' → W p l e (headSpec wsX6_findOwn { frames := 6, cells := 0, slots := 0, locals := 136 }).room s m args below meth c H locs 0 0 (MQ below (QcV D A (wM cy ad S')) args s 0 0 A) (F0 m 2 ls [])) → ∀ (x1 : Int32) (s1 : Int32) (s2 : Int32) (S : MS) (H : Heap) (locs : List Loc) (ls : Array Slot), va_P D vwCl (wM cy ad S) H → va_S A s.heap H locs → lv_has ls 2 [(0, .ref (ad 0)), (1, .int x1)] → bX6_findOwn_32 k2 x1 s1 s2 S = some S' → W p l e (headSpec wsX6_findOwn { frames := 6, cells := 0, slots := 0, locals := 136 }).room s m args below meth c H locs 0 0 (MQ below (QcV D A (wM cy ad S')) args s 0 0 A) (F0 m 32 ls [.int s2, .int s1, .ref (ad 9)]) := by
    intro k2 ih2 x1 s1 s2 S H locs ls hP hS hl hf
    unfold bX6_findOwn_32 at hf
    obtain ⟨c20, hf⟩ := ck_some hf
    refine asM9 (v := s2) hx hb hK hP hD hS c20 dX6_findOwn_32 (fun S19 eS19 H locs hP hS => ?_)
    have hf := bnd_of eS19 hf
    refine lv_iinc (v := (x1 + 1)) (lv' := [(1, .int (x1 + 1)), (0, .ref (ad 0))]) hx hb dX6_findOwn_33 hl (k := 1) rfl rfl (by decide) rfl (fun ls hl => ?_)
    refine lv_goto (tgt := 2) hx hb dX6_findOwn_36 (by decide) ?_
    exact ih2 ((x1 + 1)) S19 H locs ls hP hS (lv_sub hl [1, 0] rfl) hf
  have K2 : ∀ (n : Nat), ∀ (x1 : Int32) (S : MS) (H : Heap) (locs : List Loc) (ls : Array Slot), va_P D vwCl (wM cy ad S) H → va_S A s.heap H locs → lv_has ls 2 [(0, .ref (ad 0)), (1, .int x1)] → lp (fun k q => bX6_findOwn_2  k q.1 q.2) n (x1, S) = some S' → W p l e (headSpec wsX6_findOwn { frames := 6, cells := 0, slots := 0, locals := 136 }).room s m args below meth c H locs 0 0 (MQ below (QcV D A (wM cy ad S')) args s 0 0 A) (F0 m 2 ls []) := by
    intro  n
    induction n with
    | zero =>
      intro x1 S H locs ls hP hS hl hf
      cases hf
    | succ n ih2 =>
      intro x1 S H locs ls hP hS hl hf
      have hf : bX6_findOwn_2  (lp (fun k q => bX6_findOwn_2  k q.1 q.2) n) x1 S = some S' := hf
      generalize lp (fun k q => bX6_findOwn_2  k q.1 q.2) n = k2 at hf ih2
      unfold bX6_findOwn_2 at hf
      refine lv_iload_n hx hb dX6_findOwn_2 rfl (lv_at hl 1 rfl) ?_
      refine lv_aload_n hx hb dX6_findOwn_3 rfl (lv_at hl 0 rfl) ?_
      refine gfX6_5 hx hb hts (fun _ h => List.mem_cons_of_mem _ (List.mem_append_right _ h)) hown hK hP (hts (Cond.fieldLink RX6 68 "WhoSpeaksModel" "paragraphs" "I") (List.mem_of_getElem? (i := 1) rfl)) dX6_findOwn_4 ?_
      refine lv_icmp_ge (tgt := 39) hx hb dX6_findOwn_7 (by decide) (fun c21 => ?_) (fun c21 => ?_)
      · have hf := (if_pos c21).symm.trans hf
        cases hf
        exact rV hx hb hr hP hS hlocks dX6_findOwn_39
      · have hf := (if_neg c21).symm.trans hf
        refine lv_aload_n hx hb dX6_findOwn_10 rfl (lv_at hl 0 rfl) ?_
        refine gfX6_13 hx hb hts (fun _ h => List.mem_cons_of_mem _ (List.mem_append_right _ h)) hown hK hP (hts (Cond.fieldLink RX6 39 "WhoSpeaksModel" "own" "[I") (List.mem_of_getElem? (i := 2) rfl)) dX6_findOwn_11 ?_
        refine lv_iload_n hx hb dX6_findOwn_14 rfl (lv_at hl 1 rfl) ?_
        refine lv_aload_n hx hb dX6_findOwn_15 rfl (lv_at hl 0 rfl) ?_
        refine lv_iload_n hx hb dX6_findOwn_16 rfl (lv_at hl 1 rfl) ?_
        obtain ⟨r22, h23, hf⟩ := ob1_some hf
        refine kVi (As := [.int x1]) (rest := [.int x1, .ref (ad 9)]) ⟨hx, hb, hml, hown, hts⟩ (okX6_speaks l D cy ad A hD x1 S r22 h23) (cwV 1 hts gX6_findOwn_X6_speaks rfl rfl rfl (by decide +kernel) ⟨Nat.le_of_ble_eq_true rfl, Nat.le_of_ble_eq_true rfl⟩) hK hP hS (va_recv hK.1 hP (ci := 6) (q := (RX6, TX6, 21)) rfl (atM0 cy ad S)) rfl hl.1 rfl (Nat.le_of_ble_eq_true rfl) dX6_findOwn_17 (fun H locs hP hS => ?_)
        refine lv_if_eq (tgt := 31) hx hb dX6_findOwn_20 (by decide) (fun c24 => ?_) (fun c24 => ?_)
        · have hf := (if_pos c24).symm.trans hf
          refine lv_iconst (v := 0) hx hb dX6_findOwn_31 (by decide) ?_
          exact K32 k2 ih2 (x1) (x1) (0) S H locs ls hP hS (lv_sub hl [0, 1] rfl) hf
        · have hf := (if_neg c24).symm.trans hf
          refine lv_aload_n hx hb dX6_findOwn_23 rfl (lv_at hl 0 rfl) ?_
          refine lv_iload_n hx hb dX6_findOwn_24 rfl (lv_at hl 1 rfl) ?_
          obtain ⟨r25, h26, hf⟩ := ob1_some hf
          refine kVi (As := [.int x1]) (rest := [.int x1, .ref (ad 9)]) ⟨hx, hb, hml, hown, hts⟩ (okX6_ownOf l D cy ad A hD x1 S r25 h26) (cwV 1 hts gX6_findOwn_X6_ownOf rfl rfl rfl (by decide +kernel) ⟨Nat.le_of_ble_eq_true rfl, Nat.le_of_ble_eq_true rfl⟩) hK hP hS (va_recv hK.1 hP (ci := 6) (q := (RX6, TX6, 21)) rfl (atM0 cy ad S)) rfl hl.1 rfl (Nat.le_of_ble_eq_true rfl) dX6_findOwn_25 (fun H locs hP hS => ?_)
          refine lv_goto (tgt := 32) hx hb dX6_findOwn_28 (by decide) ?_
          exact K32 k2 ih2 (x1) (x1) (r25) S H locs ls hP hS (lv_sub hl [0, 1] rfl) hf
  unfold fX6_findOwn at hf
  suffices hG : ∀ (H : Heap) (locs : List Loc), va_P D vwCl (wM cy ad S) H → va_S A s.heap H locs → W p l e (headSpec wsX6_findOwn { frames := 6, cells := 0, slots := 0, locals := 136 }).room s m args below meth c H locs 0 0 (MQ below (QcV D A (wM cy ad S')) args s 0 0 A) (F0 m 0 ls []) by exact hG s.heap [] hP va_S.rf
  clear hP hS
  intro H locs hP hS
  refine lv_iconst (v := 0) hx hb dX6_findOwn_0 (by decide) ?_
  refine lv_istore_n (lv' := [(1, .int 0), (0, .ref (ad 0))]) hx hb dX6_findOwn_1 rfl hl (by decide) rfl (fun ls hl => ?_)
  exact K2  FU (0) S H locs ls hP hS (lv_sub hl [1, 0] rfl) hf

def fX6_linkAt (p0 : Int32) (S : MS) : Option Int32 := (if p0 < 1 then (some 0) else (if (mi S 3) ≤ p0 then (some 0) else (ob1 (fX6_speaks p0 S) (fun r10 => (if (bi r10) = 0 then (some 0) else (ob1 (fX6_speaks (p0 - 1) S) (fun r13 => (if (bi r13) = 0 then (some 0) else (ck p0 16 (if (ma S 6 p0.toNatClampNeg) = 0 then (if (bi (fX6_has (mi S 1) 3)) = 0 then (some 0) else (some 2)) else (some 1)))))))))))
set_option maxHeartbeats 4000000 in
set_option maxRecDepth 100000 in
theorem okX6_linkAt (l : Launch) (D : va_G) (cy : Nat → ClassId) (ad : Nat → Nat) (A : Nat → Prop) (hD : ∀ S, va_D A (wM cy ad S)) (p0 : Int32) (S : MS) (r : Int32) (hf : fX6_linkAt p0 S = some r) : MI l yX6_linkAt wsX6_linkAt { frames := 2, cells := 0, slots := 0, locals := 45 } D cy A (wM cy ad S) [.ref (ad 0), .int p0] r (wM cy ad S) := by
  refine Met.ofW (cc := cX6_linkAt) (maxL := 2) (ret := (some .int)) (by decide) rfl ?_
  intro p e s m args below meth c s₁ B hml hv
  obtain ⟨ha, hP, hK⟩ := hv
  have hx := B.exec
  have hb := B.bytes
  have hr := B.returns
  have hts := atoms_spec (ws := wsX6_linkAt) B.pre
  have hown : s.vm.findClass RX6 = some m.cls := findClass_of_methodNamed B.named
  have hlocks := B.notSynchronized
  have hS : va_S A s.heap s.heap [] := va_S.rf
  obtain ⟨ls, hl, he0⟩ := ent (m := m) ha (n := 2) (Nat.le_of_ble_eq_true rfl)
  refine W.eq he0 ?_
  have hl : lv_has ls 2 [(0, .ref (ad 0)), (1, .int p0)] := hl
  unfold fX6_linkAt at hf
  suffices hG : ∀ (H : Heap) (locs : List Loc), va_P D vwCl (wM cy ad S) H → va_S A s.heap H locs → W p l e (headSpec wsX6_linkAt { frames := 2, cells := 0, slots := 0, locals := 45 }).room s m args below meth c H locs 0 0 (MQ below (QcI D A r (wM cy ad S)) args s 0 0 A) (F0 m 0 ls []) by exact hG s.heap [] hP va_S.rf
  clear hP hS
  intro H locs hP hS
  refine lv_iload_n hx hb dX6_linkAt_0 rfl (lv_at hl 1 rfl) ?_
  refine lv_iconst (v := 1) hx hb dX6_linkAt_1 (by decide) ?_
  refine lv_icmp_lt (tgt := 31) hx hb dX6_linkAt_2 (by decide) (fun c8 => ?_) (fun c8 => ?_)
  · have hf := (if_pos c8).symm.trans hf
    refine lv_iconst (v := 0) hx hb dX6_linkAt_31 (by decide) ?_
    have he := Option.some.inj hf
    exact rI hx hb hr hP hS he hlocks dX6_linkAt_32
  · have hf := (if_neg c8).symm.trans hf
    refine lv_iload_n hx hb dX6_linkAt_5 rfl (lv_at hl 1 rfl) ?_
    refine lv_aload_n hx hb dX6_linkAt_6 rfl (lv_at hl 0 rfl) ?_
    refine gfX6_5 hx hb hts (fun _ h => List.mem_cons_of_mem _ (List.mem_append_right _ h)) hown hK hP (hts (Cond.fieldLink RX6 68 "WhoSpeaksModel" "paragraphs" "I") (List.mem_of_getElem? (i := 1) rfl)) dX6_linkAt_7 ?_
    refine lv_icmp_ge (tgt := 31) hx hb dX6_linkAt_10 (by decide) (fun c9 => ?_) (fun c9 => ?_)
    · have hf := (if_pos c9).symm.trans hf
      refine lv_iconst (v := 0) hx hb dX6_linkAt_31 (by decide) ?_
      have he := Option.some.inj hf
      exact rI hx hb hr hP hS he hlocks dX6_linkAt_32
    · have hf := (if_neg c9).symm.trans hf
      refine lv_aload_n hx hb dX6_linkAt_13 rfl (lv_at hl 0 rfl) ?_
      refine lv_iload_n hx hb dX6_linkAt_14 rfl (lv_at hl 1 rfl) ?_
      obtain ⟨r10, h11, hf⟩ := ob1_some hf
      refine kVi (As := [.int p0]) (rest := []) ⟨hx, hb, hml, hown, hts⟩ (okX6_speaks l D cy ad A hD p0 S r10 h11) (cwV 1 hts gX6_linkAt_X6_speaks rfl rfl rfl (by decide +kernel) ⟨Nat.le_of_ble_eq_true rfl, Nat.le_of_ble_eq_true rfl⟩) hK hP hS (va_recv hK.1 hP (ci := 6) (q := (RX6, TX6, 21)) rfl (atM0 cy ad S)) rfl hl.1 rfl (Nat.le_of_ble_eq_true rfl) dX6_linkAt_15 (fun H locs hP hS => ?_)
      refine lv_if_eq (tgt := 31) hx hb dX6_linkAt_18 (by decide) (fun c12 => ?_) (fun c12 => ?_)
      · have hf := (if_pos c12).symm.trans hf
        refine lv_iconst (v := 0) hx hb dX6_linkAt_31 (by decide) ?_
        have he := Option.some.inj hf
        exact rI hx hb hr hP hS he hlocks dX6_linkAt_32
      · have hf := (if_neg c12).symm.trans hf
        refine lv_aload_n hx hb dX6_linkAt_21 rfl (lv_at hl 0 rfl) ?_
        refine lv_iload_n hx hb dX6_linkAt_22 rfl (lv_at hl 1 rfl) ?_
        refine lv_iconst (v := 1) hx hb dX6_linkAt_23 (by decide) ?_
        refine lv_isub hx hb dX6_linkAt_24 ?_
        obtain ⟨r13, h14, hf⟩ := ob1_some hf
        refine kVi (As := [.int (p0 - 1)]) (rest := []) ⟨hx, hb, hml, hown, hts⟩ (okX6_speaks l D cy ad A hD (p0 - 1) S r13 h14) (cwV 1 hts gX6_linkAt_X6_speaks rfl rfl rfl (by decide +kernel) ⟨Nat.le_of_ble_eq_true rfl, Nat.le_of_ble_eq_true rfl⟩) hK hP hS (va_recv hK.1 hP (ci := 6) (q := (RX6, TX6, 21)) rfl (atM0 cy ad S)) rfl hl.1 rfl (Nat.le_of_ble_eq_true rfl) dX6_linkAt_25 (fun H locs hP hS => ?_)
        refine lv_if_ne (tgt := 33) hx hb dX6_linkAt_28 (by decide) (fun c15 => ?_) (fun c15 => ?_)
        · have hf := (if_neg c15).symm.trans hf
          refine lv_aload_n hx hb dX6_linkAt_33 rfl (lv_at hl 0 rfl) ?_
          refine gfX6_9 hx hb hts (fun _ h => List.mem_cons_of_mem _ (List.mem_append_right _ h)) hown hK hP (hts (Cond.fieldLink RX6 29 "WhoSpeaksModel" "goesOn" "[Z") (List.mem_of_getElem? (i := 2) rfl)) dX6_linkAt_34 ?_
          refine lv_iload_n hx hb dX6_linkAt_37 rfl (lv_at hl 1 rfl) ?_
          obtain ⟨c16, hf⟩ := ck_some hf
          refine alM6 hx hb hK hP c16 dX6_linkAt_38 ?_
          refine lv_if_eq (tgt := 46) hx hb dX6_linkAt_39 (by decide) (fun c17 => ?_) (fun c17 => ?_)
          · have hf := (if_pos c17).symm.trans hf
            refine lv_aload_n hx hb dX6_linkAt_46 rfl (lv_at hl 0 rfl) ?_
            refine gfX6_2 hx hb hts (fun _ h => List.mem_cons_of_mem _ (List.mem_append_right _ h)) hown hK hP (hts (Cond.fieldLink RX6 13 "WhoSpeaksModel" "rules" "I") (List.mem_of_getElem? (i := 3) rfl)) dX6_linkAt_47 ?_
            refine lv_iconst (v := 3) hx hb dX6_linkAt_50 (by decide) ?_
            refine kSi (As := [.int (mi S 1), .int 3]) (rest := []) ⟨hx, hb, hml, hown, hts⟩ (okX6_has l D cy A (wM cy ad S) (mi S 1) 3 _ rfl) (va_cwS 2 hts gX6_linkAt_X6_has rfl rfl rfl (by decide +kernel) ⟨Nat.le_of_ble_eq_true rfl, Nat.le_of_ble_eq_true rfl⟩) hK hP hS rfl hl.1 rfl (Nat.le_of_ble_eq_true rfl) dX6_linkAt_51 (fun H locs hP hS => ?_)
            refine lv_if_eq (tgt := 61) hx hb dX6_linkAt_54 (by decide) (fun c19 => ?_) (fun c19 => ?_)
            · have hf := (if_pos c19).symm.trans hf
              refine lv_iconst (v := 0) hx hb dX6_linkAt_61 (by decide) ?_
              have he := Option.some.inj hf
              exact rI hx hb hr hP hS he hlocks dX6_linkAt_62
            · have hf := (if_neg c19).symm.trans hf
              refine lv_iconst (v := 2) hx hb dX6_linkAt_57 (by decide) ?_
              refine lv_goto (tgt := 62) hx hb dX6_linkAt_58 (by decide) ?_
              have he := Option.some.inj hf
              exact rI hx hb hr hP hS he hlocks dX6_linkAt_62
          · have hf := (if_neg c17).symm.trans hf
            refine lv_iconst (v := 1) hx hb dX6_linkAt_42 (by decide) ?_
            refine lv_goto (tgt := 62) hx hb dX6_linkAt_43 (by decide) ?_
            have he := Option.some.inj hf
            exact rI hx hb hr hP hS he hlocks dX6_linkAt_62
        · have hf := (if_pos c15).symm.trans hf
          refine lv_iconst (v := 0) hx hb dX6_linkAt_31 (by decide) ?_
          have he := Option.some.inj hf
          exact rI hx hb hr hP hS he hlocks dX6_linkAt_32

def bX6_size_4  (k4 : Int32 × Int32 × Int32 → Option Int32) (x0 : Int32) (x1 : Int32) (x2 : Int32) : Option Int32 := (if 8 ≤ x2 then (some x1) else (bnd ((x1 + ((x0 >>> (x2 &&& 31)) &&& 1))) (fun y8 => (k4 (x0, y8, (x2 + 1))))))
def fX6_size (p0 : Int32) : Option Int32 := (lp (fun k q => bX6_size_4  k q.1 q.2.1 q.2.2) FU (p0, 0, 0))
set_option maxHeartbeats 4000000 in
set_option maxRecDepth 100000 in
theorem okX6_size (l : Launch) (D : va_G) (cy : Nat → ClassId) (A : Nat → Prop) (w : va_W) (p0 : Int32) (r : Int32) (hf : fX6_size p0 = some r) : MI l yX6_size wsX6_size { frames := 0, cells := 0, slots := 0, locals := 0 } D cy A w [.int p0] r w := by
  refine Met.ofW (cc := cX6_size) (maxL := 3) (ret := (some .int)) (by decide) rfl ?_
  intro p e s m args below meth c s₁ B hml hv
  obtain ⟨ha, hP, hK⟩ := hv
  have hx := B.exec
  have hb := B.bytes
  have hr := B.returns
  have hts := atoms_spec (ws := wsX6_size) B.pre
  have hown : s.vm.findClass RX6 = some m.cls := findClass_of_methodNamed B.named
  have hlocks := B.notSynchronized
  have hS : va_S A s.heap s.heap [] := va_S.rf
  obtain ⟨ls, hl, he0⟩ := ent (m := m) ha (n := 3) (Nat.le_of_ble_eq_true rfl)
  refine W.eq he0 ?_
  have hl : lv_has ls 3 [(0, .int p0)] := hl
  have K4 : ∀ (n : Nat), ∀ (x0 : Int32) (x1 : Int32) (x2 : Int32) (H : Heap) (locs : List Loc) (ls : Array Slot), va_P D vwCl w H → va_S A s.heap H locs → lv_has ls 3 [(0, .int x0), (1, .int x1), (2, .int x2)] → lp (fun k q => bX6_size_4  k q.1 q.2.1 q.2.2) n (x0, x1, x2) = some r → W p l e (headSpec wsX6_size { frames := 0, cells := 0, slots := 0, locals := 0 }).room s m args below meth c H locs 0 0 (MQ below (QcI D A r w) args s 0 0 A) (F0 m 4 ls []) := by
    intro  n
    induction n with
    | zero =>
      intro x0 x1 x2 H locs ls hP hS hl hf
      cases hf
    | succ n ih4 =>
      intro x0 x1 x2 H locs ls hP hS hl hf
      have hf : bX6_size_4  (lp (fun k q => bX6_size_4  k q.1 q.2.1 q.2.2) n) x0 x1 x2 = some r := hf
      generalize lp (fun k q => bX6_size_4  k q.1 q.2.1 q.2.2) n = k4 at hf ih4
      unfold bX6_size_4 at hf
      refine lv_iload_n hx hb dX6_size_4 rfl (lv_at hl 2 rfl) ?_
      refine lv_bipush (v := 8) hx hb dX6_size_5 (by decide) ?_
      refine lv_icmp_ge (tgt := 24) hx hb dX6_size_7 (by decide) (fun c7 => ?_) (fun c7 => ?_)
      · have hf := (if_pos c7).symm.trans hf
        refine lv_iload_n hx hb dX6_size_24 rfl (lv_at hl 1 rfl) ?_
        have he := Option.some.inj hf
        exact rI hx hb hr hP hS he hlocks dX6_size_25
      · have hf := (if_neg c7).symm.trans hf
        refine lv_iload_n hx hb dX6_size_10 rfl (lv_at hl 1 rfl) ?_
        refine lv_iload_n hx hb dX6_size_11 rfl (lv_at hl 0 rfl) ?_
        refine lv_iload_n hx hb dX6_size_12 rfl (lv_at hl 2 rfl) ?_
        refine lv_ishr hx hb dX6_size_13 ?_
        refine lv_iconst (v := 1) hx hb dX6_size_14 (by decide) ?_
        refine lv_iand hx hb dX6_size_15 ?_
        refine lv_iadd hx hb dX6_size_16 ?_
        refine lv_topi (fun y8 ey8 => ?_)
        have hf := bnd_of ey8 hf
        refine lv_istore_n (lv' := [(1, .int y8), (0, .int x0), (2, .int x2)]) hx hb dX6_size_17 rfl hl (by decide) rfl (fun ls hl => ?_)
        refine lv_iinc (v := (x2 + 1)) (lv' := [(2, .int (x2 + 1)), (1, .int y8), (0, .int x0)]) hx hb dX6_size_18 hl (k := 2) rfl rfl (by decide) rfl (fun ls hl => ?_)
        refine lv_goto (tgt := 4) hx hb dX6_size_21 (by decide) ?_
        exact ih4 (x0) (y8) ((x2 + 1)) H locs ls hP hS (lv_sub hl [2, 1, 0] rfl) hf
  unfold fX6_size at hf
  suffices hG : ∀ (H : Heap) (locs : List Loc), va_P D vwCl w H → va_S A s.heap H locs → W p l e (headSpec wsX6_size { frames := 0, cells := 0, slots := 0, locals := 0 }).room s m args below meth c H locs 0 0 (MQ below (QcI D A r w) args s 0 0 A) (F0 m 0 ls []) by exact hG s.heap [] hP va_S.rf
  clear hP hS
  intro H locs hP hS
  refine lv_iconst (v := 0) hx hb dX6_size_0 (by decide) ?_
  refine lv_istore_n (lv' := [(1, .int 0), (0, .int p0)]) hx hb dX6_size_1 rfl hl (by decide) rfl (fun ls hl => ?_)
  refine lv_iconst (v := 0) hx hb dX6_size_2 (by decide) ?_
  refine lv_istore_n (lv' := [(2, .int 0), (1, .int 0), (0, .int p0)]) hx hb dX6_size_3 rfl hl (by decide) rfl (fun ls hl => ?_)
  exact K4  FU (p0) (0) (0) H locs ls hP hS (lv_sub hl [2, 1, 0] rfl) hf

def fX6_by (p0 : Int32) (p1 : Int32) (p2 : Int32) (S : MS) : Option Int32 := (if p1 = 1 then (some (p0 &&& p2)) else (if p1 = 2 then (ob1 (fX6_size p2) (fun r6 => (if r6 = 1 then (some (p0 &&& (p2 ^^^ (-1)))) else (some p0)))) else (some p0)))
set_option maxHeartbeats 4000000 in
set_option maxRecDepth 100000 in
theorem okX6_by (l : Launch) (D : va_G) (cy : Nat → ClassId) (ad : Nat → Nat) (A : Nat → Prop) (hD : ∀ S, va_D A (wM cy ad S)) (p0 : Int32) (p1 : Int32) (p2 : Int32) (S : MS) (r : Int32) (hf : fX6_by p0 p1 p2 S = some r) : MI l yX6_by wsX6_by { frames := 1, cells := 0, slots := 0, locals := 22 } D cy A (wM cy ad S) [.ref (ad 0), .int p0, .int p1, .int p2] r (wM cy ad S) := by
  refine Met.ofW (cc := cX6_by) (maxL := 4) (ret := (some .int)) (by decide) rfl ?_
  intro p e s m args below meth c s₁ B hml hv
  obtain ⟨ha, hP, hK⟩ := hv
  have hx := B.exec
  have hb := B.bytes
  have hr := B.returns
  have hts := atoms_spec (ws := wsX6_by) B.pre
  have hown : s.vm.findClass RX6 = some m.cls := findClass_of_methodNamed B.named
  have hlocks := B.notSynchronized
  have hS : va_S A s.heap s.heap [] := va_S.rf
  obtain ⟨ls, hl, he0⟩ := ent (m := m) ha (n := 4) (Nat.le_of_ble_eq_true rfl)
  refine W.eq he0 ?_
  have hl : lv_has ls 4 [(0, .ref (ad 0)), (1, .int p0), (2, .int p1), (3, .int p2)] := hl
  unfold fX6_by at hf
  suffices hG : ∀ (H : Heap) (locs : List Loc), va_P D vwCl (wM cy ad S) H → va_S A s.heap H locs → W p l e (headSpec wsX6_by { frames := 1, cells := 0, slots := 0, locals := 22 }).room s m args below meth c H locs 0 0 (MQ below (QcI D A r (wM cy ad S)) args s 0 0 A) (F0 m 0 ls []) by exact hG s.heap [] hP va_S.rf
  clear hP hS
  intro H locs hP hS
  refine lv_iload_n hx hb dX6_by_0 rfl (lv_at hl 2 rfl) ?_
  refine lv_iconst (v := 1) hx hb dX6_by_1 (by decide) ?_
  refine lv_icmp_ne (tgt := 9) hx hb dX6_by_2 (by decide) (fun c4 => ?_) (fun c4 => ?_)
  · have hf := (if_neg c4).symm.trans hf
    refine lv_iload_n hx hb dX6_by_9 rfl (lv_at hl 2 rfl) ?_
    refine lv_iconst (v := 2) hx hb dX6_by_10 (by decide) ?_
    refine lv_icmp_ne (tgt := 30) hx hb dX6_by_11 (by decide) (fun c5 => ?_) (fun c5 => ?_)
    · have hf := (if_neg c5).symm.trans hf
      refine lv_iload_n hx hb dX6_by_30 rfl (lv_at hl 1 rfl) ?_
      have he := Option.some.inj hf
      exact rI hx hb hr hP hS he hlocks dX6_by_31
    · have hf := (if_pos c5).symm.trans hf
      refine lv_iload_n hx hb dX6_by_14 rfl (lv_at hl 3 rfl) ?_
      obtain ⟨r6, h7, hf⟩ := ob1_some hf
      refine kSi (As := [.int p2]) (rest := []) ⟨hx, hb, hml, hown, hts⟩ (okX6_size l D cy A (wM cy ad S) p2 r6 h7) (va_cwS 1 hts gX6_by_X6_size rfl rfl rfl (by decide +kernel) ⟨Nat.le_of_ble_eq_true rfl, Nat.le_of_ble_eq_true rfl⟩) hK hP hS rfl hl.1 rfl (Nat.le_of_ble_eq_true rfl) dX6_by_15 (fun H locs hP hS => ?_)
      refine lv_iconst (v := 1) hx hb dX6_by_18 (by decide) ?_
      refine lv_icmp_ne (tgt := 30) hx hb dX6_by_19 (by decide) (fun c8 => ?_) (fun c8 => ?_)
      · have hf := (if_neg c8).symm.trans hf
        refine lv_iload_n hx hb dX6_by_30 rfl (lv_at hl 1 rfl) ?_
        have he := Option.some.inj hf
        exact rI hx hb hr hP hS he hlocks dX6_by_31
      · have hf := (if_pos c8).symm.trans hf
        refine lv_iload_n hx hb dX6_by_22 rfl (lv_at hl 1 rfl) ?_
        refine lv_iload_n hx hb dX6_by_23 rfl (lv_at hl 3 rfl) ?_
        refine lv_iconst (v := (-1)) hx hb dX6_by_24 (by decide) ?_
        refine lv_ixor hx hb dX6_by_25 ?_
        refine lv_iand hx hb dX6_by_26 ?_
        refine lv_goto (tgt := 31) hx hb dX6_by_27 (by decide) ?_
        have he := Option.some.inj hf
        exact rI hx hb hr hP hS he hlocks dX6_by_31
  · have hf := (if_pos c4).symm.trans hf
    refine lv_iload_n hx hb dX6_by_5 rfl (lv_at hl 1 rfl) ?_
    refine lv_iload_n hx hb dX6_by_6 rfl (lv_at hl 3 rfl) ?_
    refine lv_iand hx hb dX6_by_7 ?_
    have he := Option.some.inj hf
    exact rI hx hb hr hP hS he hlocks dX6_by_8
