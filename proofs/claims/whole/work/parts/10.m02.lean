def fX6_byWho (p0 : Int32) (p1 : Int32) (S : MS) : Option Int32 := (ck ((12 * p0) + p1) 192 (bnd ((ma S 4 ((12 * p0) + p1).toNatClampNeg)) (fun y7 => (if y7 = 3 then (ob1 (fX6_ofSort 0 S) (fun r13 => (some r13))) else (if y7 = 4 then (ob1 (fX6_ofSort 1 S) (fun r11 => (some r11))) else (ck ((12 * p0) + p1) 192 (some ((1 : Int32) <<< ((ma S 5 ((12 * p0) + p1).toNatClampNeg) &&& 31)))))))))
set_option maxHeartbeats 4000000 in
set_option maxRecDepth 100000 in
theorem okX6_byWho (l : Launch) (D : va_G) (cy : Nat → ClassId) (ad : Nat → Nat) (A : Nat → Prop) (hD : ∀ S, va_D A (wM cy ad S)) (p0 : Int32) (p1 : Int32) (S : MS) (r : Int32) (hf : fX6_byWho p0 p1 S = some r) : MI l yX6_byWho wsX6_byWho { frames := 1, cells := 0, slots := 0, locals := 23 } D cy A (wM cy ad S) [.ref (ad 0), .int p0, .int p1] r (wM cy ad S) := by
  refine Met.ofW (cc := cX6_byWho) (maxL := 4) (ret := (some .int)) (by decide) rfl ?_
  intro p e s m args below meth c s₁ B hml hv
  obtain ⟨ha, hP, hK⟩ := hv
  have hx := B.exec
  have hb := B.bytes
  have hr := B.returns
  have hts := atoms_spec (ws := wsX6_byWho) B.pre
  have hown : s.vm.findClass RX6 = some m.cls := findClass_of_methodNamed B.named
  have hlocks := B.notSynchronized
  have hS : va_S A s.heap s.heap [] := va_S.rf
  obtain ⟨ls, hl, he0⟩ := ent (m := m) ha (n := 4) (Nat.le_of_ble_eq_true rfl)
  refine W.eq he0 ?_
  have hl : lv_has ls 4 [(0, .ref (ad 0)), (1, .int p0), (2, .int p1)] := hl
  unfold fX6_byWho at hf
  suffices hG : ∀ (H : Heap) (locs : List Loc), va_P D vwCl (wM cy ad S) H → va_S A s.heap H locs → W p l e (headSpec wsX6_byWho { frames := 1, cells := 0, slots := 0, locals := 23 }).room s m args below meth c H locs 0 0 (MQ below (QcI D A r (wM cy ad S)) args s 0 0 A) (F0 m 0 ls []) by exact hG s.heap [] hP va_S.rf
  clear hP hS
  intro H locs hP hS
  refine lv_aload_n hx hb dX6_byWho_0 rfl (lv_at hl 0 rfl) ?_
  refine gfX6_7 hx hb hts (fun _ h => List.mem_cons_of_mem _ (List.mem_append_right _ h)) hown hK hP (hts (Cond.fieldLink RX6 23 "WhoSpeaksModel" "item" "[I") (List.mem_of_getElem? (i := 1) rfl)) dX6_byWho_1 ?_
  refine lv_bipush (v := 12) hx hb dX6_byWho_4 (by decide) ?_
  refine lv_iload_n hx hb dX6_byWho_6 rfl (lv_at hl 1 rfl) ?_
  refine lv_imul hx hb dX6_byWho_7 ?_
  refine lv_iload_n hx hb dX6_byWho_8 rfl (lv_at hl 2 rfl) ?_
  refine lv_iadd hx hb dX6_byWho_9 ?_
  obtain ⟨c6, hf⟩ := ck_some hf
  refine alM4 hx hb hK hP c6 dX6_byWho_10 ?_
  refine lv_topi (fun y7 ey7 => ?_)
  have hf := bnd_of ey7 hf
  refine lv_istore_n (lv' := [(3, .int y7), (0, .ref (ad 0)), (1, .int p0), (2, .int p1)]) hx hb dX6_byWho_11 rfl hl (by decide) rfl (fun ls hl => ?_)
  refine lv_iload_n hx hb dX6_byWho_12 rfl (lv_at hl 0 rfl) ?_
  refine lv_iconst (v := 3) hx hb dX6_byWho_13 (by decide) ?_
  refine lv_icmp_ne (tgt := 25) hx hb dX6_byWho_14 (by decide) (fun c8 => ?_) (fun c8 => ?_)
  · have hf := (if_neg c8).symm.trans hf
    refine lv_iload_n hx hb dX6_byWho_25 rfl (lv_at hl 0 rfl) ?_
    refine lv_iconst (v := 4) hx hb dX6_byWho_26 (by decide) ?_
    refine lv_icmp_ne (tgt := 38) hx hb dX6_byWho_27 (by decide) (fun c9 => ?_) (fun c9 => ?_)
    · have hf := (if_neg c9).symm.trans hf
      refine lv_iconst (v := 1) hx hb dX6_byWho_38 (by decide) ?_
      refine lv_aload_n hx hb dX6_byWho_39 rfl (lv_at hl 1 rfl) ?_
      refine gfX6_8 hx hb hts (fun _ h => List.mem_cons_of_mem _ (List.mem_append_right _ h)) hown hK hP (hts (Cond.fieldLink RX6 26 "WhoSpeaksModel" "whom" "[I") (List.mem_of_getElem? (i := 2) rfl)) dX6_byWho_40 ?_
      refine lv_bipush (v := 12) hx hb dX6_byWho_43 (by decide) ?_
      refine lv_iload_n hx hb dX6_byWho_45 rfl (lv_at hl 2 rfl) ?_
      refine lv_imul hx hb dX6_byWho_46 ?_
      refine lv_iload_n hx hb dX6_byWho_47 rfl (lv_at hl 3 rfl) ?_
      refine lv_iadd hx hb dX6_byWho_48 ?_
      obtain ⟨c10, hf⟩ := ck_some hf
      refine alM5 hx hb hK hP c10 dX6_byWho_49 ?_
      refine lv_ishl hx hb dX6_byWho_50 ?_
      have he := Option.some.inj hf
      exact rI hx hb hr hP hS he hlocks dX6_byWho_51
    · have hf := (if_pos c9).symm.trans hf
      refine lv_aload_n hx hb dX6_byWho_30 rfl (lv_at hl 1 rfl) ?_
      refine lv_iconst (v := 1) hx hb dX6_byWho_31 (by decide) ?_
      obtain ⟨r11, h12, hf⟩ := ob1_some hf
      refine kVi (As := [.int 1]) (rest := []) ⟨hx, hb, hml, hown, hts⟩ (okX6_ofSort l D cy ad A hD 1 S r11 h12) (cwV 1 hts gX6_byWho_X6_ofSort rfl rfl rfl (by decide +kernel) ⟨Nat.le_of_ble_eq_true rfl, Nat.le_of_ble_eq_true rfl⟩) hK hP hS (va_recv hK.1 hP (ci := 6) (q := (RX6, TX6, 21)) rfl (atM0 cy ad S)) rfl hl.1 rfl (Nat.le_of_ble_eq_true rfl) dX6_byWho_32 (fun H locs hP hS => ?_)
      refine lv_goto (tgt := 51) hx hb dX6_byWho_35 (by decide) ?_
      have he := Option.some.inj hf
      exact rI hx hb hr hP hS he hlocks dX6_byWho_51
  · have hf := (if_pos c8).symm.trans hf
    refine lv_aload_n hx hb dX6_byWho_17 rfl (lv_at hl 1 rfl) ?_
    refine lv_iconst (v := 0) hx hb dX6_byWho_18 (by decide) ?_
    obtain ⟨r13, h14, hf⟩ := ob1_some hf
    refine kVi (As := [.int 0]) (rest := []) ⟨hx, hb, hml, hown, hts⟩ (okX6_ofSort l D cy ad A hD 0 S r13 h14) (cwV 1 hts gX6_byWho_X6_ofSort rfl rfl rfl (by decide +kernel) ⟨Nat.le_of_ble_eq_true rfl, Nat.le_of_ble_eq_true rfl⟩) hK hP hS (va_recv hK.1 hP (ci := 6) (q := (RX6, TX6, 21)) rfl (atM0 cy ad S)) rfl hl.1 rfl (Nat.le_of_ble_eq_true rfl) dX6_byWho_19 (fun H locs hP hS => ?_)
    refine lv_goto (tgt := 51) hx hb dX6_byWho_22 (by decide) ?_
    have he := Option.some.inj hf
    exact rI hx hb hr hP hS he hlocks dX6_byWho_51

def bX6_ownOf_196  (x1 : Int32) (x2 : Int32) (S : MS) : Option Int32 := (ck x1 16 (if (ma S 8 x1.toNatClampNeg) = (-9) then (some x2) else (ck x1 16 (some (x2 &&& (ma S 8 x1.toNatClampNeg))))))
def bX6_ownOf_95 (k14 : Int32 × Int32 × Int32 × MS → Option Int32) (x1 : Int32) (x3 : Int32) (s0 : Int32) (s1 : Int32) (S : MS) : Option Int32 := (bnd ((s0 &&& s1)) (fun y138 => (ob1 (fX6_counts x1 x3 S) (fun r139 => (if (bi r139) = 0 then (bnd ((y138 &&& 255)) (fun y142 => (k14 (x1, y142, (x3 + 1), S)))) else (if (bi (fX6_has (mi S 1) 1)) = 0 then (bnd ((y138 &&& 255)) (fun y145 => (k14 (x1, y145, (x3 + 1), S)))) else (ob1 (fX6_whoOf x1 x3 S) (fun r146 => (ob1 (fX6_byWho x1 r146 S) (fun r148 => (bnd ((y138 &&& r148)) (fun y150 => (k14 (x1, y150, (x3 + 1), S))))))))))))))
def bX6_ownOf_55 (k14 : Int32 × Int32 × Int32 × MS → Option Int32) (x1 : Int32) (x2 : Int32) (x3 : Int32) (s0 : Bool) (S : MS) : Option Int32 := (if (bi s0) = 0 then (bX6_ownOf_95 k14 (x1) (x3) (x2) (255) S) else (if (bi (fX6_has (mi S 1) 0)) = 0 then (bX6_ownOf_95 k14 (x1) (x3) (x2) (255) S) else (ck ((12 * x1) + x3) 192 (bX6_ownOf_95 k14 (x1) (x3) (x2) ((((1 : Int32) <<< ((ma S 5 ((12 * x1) + x3).toNatClampNeg) &&& 31)) ^^^ (-1))) S))))
def bX6_ownOf_14  (k14 : Int32 × Int32 × Int32 × MS → Option Int32) (x1 : Int32) (x2 : Int32) (x3 : Int32) (S : MS) : Option Int32 := (ck x1 16 (if (ma S 3 x1.toNatClampNeg) ≤ x3 then (if (bi (fX6_has (mi S 1) 2)) = 0 then (bX6_ownOf_196  (x1) (x2) S) else (ob1 (fX6_manyCounting x1 S) (fun r159 => (if r159 = 0 then (ob1 (fX6_isItem x1 0 5 S) (fun r162 => (if (bi r162) = 0 then (bX6_ownOf_196  (x1) (x2) S) else (ob1 (fX6_isItem x1 1 2 S) (fun r165 => (if (bi r165) = 0 then (bX6_ownOf_196  (x1) (x2) S) else (ck (12 * x1) 192 (bnd ((x2 &&& ((1 : Int32) <<< ((ma S 5 (12 * x1).toNatClampNeg) &&& 31)))) (fun y169 => (bX6_ownOf_196  (x1) (y169) S)))))))))) else (bX6_ownOf_196  (x1) (x2) S))))) else (ob1 (fX6_isItem x1 x3 0 S) (fun r170 => (if (bi r170) = 0 then (bX6_ownOf_55 k14 (x1) (x2) (x3) (false) S) else (ck ((12 * x1) + x3) 192 (if (ma S 5 ((12 * x1) + x3).toNatClampNeg) = (-9) then (bX6_ownOf_55 k14 (x1) (x2) (x3) (false) S) else (bX6_ownOf_55 k14 (x1) (x2) (x3) (true) S))))))))
def fX6_ownOf (p0 : Int32) (S : MS) : Option Int32 := (ck p0 16 (ob1 (fX6_there  S) (fun r176 => (bnd (((ma S 7 p0.toNatClampNeg) &&& r176)) (fun y178 => (lp (fun k q => bX6_ownOf_14  k q.1 q.2.1 q.2.2.1 q.2.2.2) FU (p0, y178, 0, S)))))))
set_option maxHeartbeats 4000000 in
set_option maxRecDepth 100000 in
theorem okX6_ownOf (l : Launch) (D : va_G) (cy : Nat → ClassId) (ad : Nat → Nat) (A : Nat → Prop) (hD : ∀ S, va_D A (wM cy ad S)) (p0 : Int32) (S : MS) (r : Int32) (hf : fX6_ownOf p0 S = some r) : MI l yX6_ownOf wsX6_ownOf { frames := 5, cells := 0, slots := 0, locals := 112 } D cy A (wM cy ad S) [.ref (ad 0), .int p0] r (wM cy ad S) := by
  refine Met.ofW (cc := cX6_ownOf) (maxL := 5) (ret := (some .int)) (by decide) rfl ?_
  intro p e s m args below meth c s₁ B hml hv
  obtain ⟨ha, hP, hK⟩ := hv
  have hx := B.exec
  have hb := B.bytes
  have hr := B.returns
  have hts := atoms_spec (ws := wsX6_ownOf) B.pre
  have hown : s.vm.findClass RX6 = some m.cls := findClass_of_methodNamed B.named
  have hlocks := B.notSynchronized
  have hS : va_S A s.heap s.heap [] := va_S.rf
  obtain ⟨ls, hl, he0⟩ := ent (m := m) ha (n := 5) (Nat.le_of_ble_eq_true rfl)
  refine W.eq he0 ?_
  have hl : lv_has ls 5 [(0, .ref (ad 0)), (1, .int p0)] := hl
  have K196 : ∀ (x1 : Int32) (x2 : Int32) (S : MS) (H : Heap) (locs : List Loc) (ls : Array Slot), va_P D vwCl (wM cy ad S) H → va_S A s.heap H locs → lv_has ls 5 [(0, .ref (ad 0)), (1, .int x1), (2, .int x2)] → bX6_ownOf_196  x1 x2 S = some r → W p l e (headSpec wsX6_ownOf { frames := 5, cells := 0, slots := 0, locals := 112 }).room s m args below meth c H locs 0 0 (MQ below (QcI D A r (wM cy ad S)) args s 0 0 A) (F0 m 196 ls []) := by
    intro  x1 x2 S H locs ls hP hS hl hf
    unfold bX6_ownOf_196 at hf
    refine lv_aload_n hx hb dX6_ownOf_196 rfl (lv_at hl 0 rfl) ?_
    refine gfX6_11 hx hb hts (fun _ h => List.mem_cons_of_mem _ (List.mem_append_right _ h)) hown hK hP (hts (Cond.fieldLink RX6 36 "WhoSpeaksModel" "hintOf" "[I") (List.mem_of_getElem? (i := 5) rfl)) dX6_ownOf_197 ?_
    refine lv_iload_n hx hb dX6_ownOf_200 rfl (lv_at hl 1 rfl) ?_
    obtain ⟨c135, hf⟩ := ck_some hf
    refine alM8 hx hb hK hP c135 dX6_ownOf_201 ?_
    refine lv_bipush (v := (-9)) hx hb dX6_ownOf_202 (by decide) ?_
    refine lv_icmp_ne (tgt := 211) hx hb dX6_ownOf_204 (by decide) (fun c136 => ?_) (fun c136 => ?_)
    · have hf := (if_neg c136).symm.trans hf
      refine lv_iload_n hx hb dX6_ownOf_211 rfl (lv_at hl 2 rfl) ?_
      refine lv_aload_n hx hb dX6_ownOf_212 rfl (lv_at hl 0 rfl) ?_
      refine gfX6_11 hx hb hts (fun _ h => List.mem_cons_of_mem _ (List.mem_append_right _ h)) hown hK hP (hts (Cond.fieldLink RX6 36 "WhoSpeaksModel" "hintOf" "[I") (List.mem_of_getElem? (i := 5) rfl)) dX6_ownOf_213 ?_
      refine lv_iload_n hx hb dX6_ownOf_216 rfl (lv_at hl 1 rfl) ?_
      obtain ⟨c137, hf⟩ := ck_some hf
      refine alM8 hx hb hK hP c137 dX6_ownOf_217 ?_
      refine lv_iand hx hb dX6_ownOf_218 ?_
      have he := Option.some.inj hf
      exact rI hx hb hr hP hS he hlocks dX6_ownOf_219
    · have hf := (if_pos c136).symm.trans hf
      refine lv_iload_n hx hb dX6_ownOf_207 rfl (lv_at hl 2 rfl) ?_
      refine lv_goto (tgt := 219) hx hb dX6_ownOf_208 (by decide) ?_
      have he := Option.some.inj hf
      exact rI hx hb hr hP hS he hlocks dX6_ownOf_219
  have K95 : ∀ (k14 : Int32 × Int32 × Int32 × MS → Option Int32), (∀ (x1 : Int32) (x2 : Int32) (x3 : Int32) (S : MS) (H : Heap) (locs : List Loc) (ls : Array Slot), va_P D vwCl (wM cy ad S) H → va_S A s.heap H locs → lv_has ls 5 [(0, .ref (ad 0)), (1, .int x1), (2, .int x2), (3, .int x3)] → k14 (x1, x2, x3, S) = some r → W p l e (headSpec wsX6_ownOf { frames := 5, cells := 0, slots := 0, locals := 112 }).room s m args below meth c H locs 0 0 (MQ below (QcI D A r (wM cy ad S)) args s 0 0 A) (F0 m 14 ls [])) → ∀ (x1 : Int32) (x3 : Int32) (s0 : Int32) (s1 : Int32) (S : MS) (H : Heap) (locs : List Loc) (ls : Array Slot), va_P D vwCl (wM cy ad S) H → va_S A s.heap H locs → lv_has ls 5 [(0, .ref (ad 0)), (1, .int x1), (3, .int x3)] → bX6_ownOf_95 k14 x1 x3 s0 s1 S = some r → W p l e (headSpec wsX6_ownOf { frames := 5, cells := 0, slots := 0, locals := 112 }).room s m args below meth c H locs 0 0 (MQ below (QcI D A r (wM cy ad S)) args s 0 0 A) (F0 m 95 ls [.int s1, .int s0]) := by
    intro k14 ih14 x1 x3 s0 s1 S H locs ls hP hS hl hf
    unfold bX6_ownOf_95 at hf
    refine lv_iand hx hb dX6_ownOf_95 ?_
    refine lv_topi (fun y138 ey138 => ?_)
    have hf := bnd_of ey138 hf
    refine lv_istore_n (lv' := [(2, .int y138), (0, .ref (ad 0)), (1, .int x1), (3, .int x3)]) hx hb dX6_ownOf_96 rfl hl (by decide) rfl (fun ls hl => ?_)
    refine lv_iload_n hx hb dX6_ownOf_97 rfl (lv_at hl 0 rfl) ?_
    refine lv_aload_n hx hb dX6_ownOf_98 rfl (lv_at hl 1 rfl) ?_
    refine lv_iload_n hx hb dX6_ownOf_99 rfl (lv_at hl 2 rfl) ?_
    refine lv_iload_n hx hb dX6_ownOf_100 rfl (lv_at hl 3 rfl) ?_
    obtain ⟨r139, h140, hf⟩ := ob1_some hf
    refine kVi (As := [.int x1, .int x3]) (rest := [.int y138]) ⟨hx, hb, hml, hown, hts⟩ (okX6_counts l D cy ad A hD x1 x3 S r139 h140) (cwV 2 hts gX6_ownOf_X6_counts rfl rfl rfl (by decide +kernel) ⟨Nat.le_of_ble_eq_true rfl, Nat.le_of_ble_eq_true rfl⟩) hK hP hS (va_recv hK.1 hP (ci := 6) (q := (RX6, TX6, 21)) rfl (atM0 cy ad S)) rfl hl.1 rfl (Nat.le_of_ble_eq_true rfl) dX6_ownOf_101 (fun H locs hP hS => ?_)
    refine lv_if_eq (tgt := 132) hx hb dX6_ownOf_104 (by decide) (fun c141 => ?_) (fun c141 => ?_)
    · have hf := (if_pos c141).symm.trans hf
      refine lv_sipush (v := 255) hx hb dX6_ownOf_132 (by decide) ?_
      refine lv_iand hx hb dX6_ownOf_135 ?_
      refine lv_topi (fun y142 ey142 => ?_)
      have hf := bnd_of ey142 hf
      refine lv_istore_n (lv' := [(2, .int y142), (0, .ref (ad 0)), (1, .int x1), (3, .int x3)]) hx hb dX6_ownOf_136 rfl hl (by decide) rfl (fun ls hl => ?_)
      refine lv_iinc (v := (x3 + 1)) (lv' := [(3, .int (x3 + 1)), (2, .int y142), (0, .ref (ad 0)), (1, .int x1)]) hx hb dX6_ownOf_137 hl (k := 3) rfl rfl (by decide) rfl (fun ls hl => ?_)
      refine lv_goto (tgt := 14) hx hb dX6_ownOf_140 (by decide) ?_
      exact ih14 (x1) (y142) ((x3 + 1)) S H locs ls hP hS (lv_sub hl [2, 3, 1, 0] rfl) hf
    · have hf := (if_neg c141).symm.trans hf
      refine lv_aload_n hx hb dX6_ownOf_107 rfl (lv_at hl 1 rfl) ?_
      refine gfX6_2 hx hb hts (fun _ h => List.mem_cons_of_mem _ (List.mem_append_right _ h)) hown hK hP (hts (Cond.fieldLink RX6 13 "WhoSpeaksModel" "rules" "I") (List.mem_of_getElem? (i := 4) rfl)) dX6_ownOf_108 ?_
      refine lv_iconst (v := 1) hx hb dX6_ownOf_111 (by decide) ?_
      refine kSi (As := [.int (mi S 1), .int 1]) (rest := [.int y138]) ⟨hx, hb, hml, hown, hts⟩ (okX6_has l D cy A (wM cy ad S) (mi S 1) 1 _ rfl) (va_cwS 2 hts gX6_ownOf_X6_has rfl rfl rfl (by decide +kernel) ⟨Nat.le_of_ble_eq_true rfl, Nat.le_of_ble_eq_true rfl⟩) hK hP hS rfl hl.1 rfl (Nat.le_of_ble_eq_true rfl) dX6_ownOf_112 (fun H locs hP hS => ?_)
      refine lv_if_eq (tgt := 132) hx hb dX6_ownOf_115 (by decide) (fun c144 => ?_) (fun c144 => ?_)
      · have hf := (if_pos c144).symm.trans hf
        refine lv_sipush (v := 255) hx hb dX6_ownOf_132 (by decide) ?_
        refine lv_iand hx hb dX6_ownOf_135 ?_
        refine lv_topi (fun y145 ey145 => ?_)
        have hf := bnd_of ey145 hf
        refine lv_istore_n (lv' := [(2, .int y145), (0, .ref (ad 0)), (1, .int x1), (3, .int x3)]) hx hb dX6_ownOf_136 rfl hl (by decide) rfl (fun ls hl => ?_)
        refine lv_iinc (v := (x3 + 1)) (lv' := [(3, .int (x3 + 1)), (2, .int y145), (0, .ref (ad 0)), (1, .int x1)]) hx hb dX6_ownOf_137 hl (k := 3) rfl rfl (by decide) rfl (fun ls hl => ?_)
        refine lv_goto (tgt := 14) hx hb dX6_ownOf_140 (by decide) ?_
        exact ih14 (x1) (y145) ((x3 + 1)) S H locs ls hP hS (lv_sub hl [2, 3, 1, 0] rfl) hf
      · have hf := (if_neg c144).symm.trans hf
        refine lv_aload_n hx hb dX6_ownOf_118 rfl (lv_at hl 1 rfl) ?_
        refine lv_iload_n hx hb dX6_ownOf_119 rfl (lv_at hl 2 rfl) ?_
        refine lv_aload_n hx hb dX6_ownOf_120 rfl (lv_at hl 1 rfl) ?_
        refine lv_iload_n hx hb dX6_ownOf_121 rfl (lv_at hl 2 rfl) ?_
        refine lv_iload_n hx hb dX6_ownOf_122 rfl (lv_at hl 3 rfl) ?_
        obtain ⟨r146, h147, hf⟩ := ob1_some hf
        refine kVi (As := [.int x1, .int x3]) (rest := [.int x1, .ref (ad 0), .int y138]) ⟨hx, hb, hml, hown, hts⟩ (okX6_whoOf l D cy ad A hD x1 x3 S r146 h147) (cwV 2 hts gX6_ownOf_X6_whoOf rfl rfl rfl (by decide +kernel) ⟨Nat.le_of_ble_eq_true rfl, Nat.le_of_ble_eq_true rfl⟩) hK hP hS (va_recv hK.1 hP (ci := 6) (q := (RX6, TX6, 21)) rfl (atM0 cy ad S)) rfl hl.1 rfl (Nat.le_of_ble_eq_true rfl) dX6_ownOf_123 (fun H locs hP hS => ?_)
        obtain ⟨r148, h149, hf⟩ := ob1_some hf
        refine kVi (As := [.int x1, .int r146]) (rest := [.int y138]) ⟨hx, hb, hml, hown, hts⟩ (okX6_byWho l D cy ad A hD x1 r146 S r148 h149) (cwV 2 hts gX6_ownOf_X6_byWho rfl rfl rfl (by decide +kernel) ⟨Nat.le_of_ble_eq_true rfl, Nat.le_of_ble_eq_true rfl⟩) hK hP hS (va_recv hK.1 hP (ci := 6) (q := (RX6, TX6, 21)) rfl (atM0 cy ad S)) rfl hl.1 rfl (Nat.le_of_ble_eq_true rfl) dX6_ownOf_126 (fun H locs hP hS => ?_)
        refine lv_goto (tgt := 135) hx hb dX6_ownOf_129 (by decide) ?_
        refine lv_iand hx hb dX6_ownOf_135 ?_
        refine lv_topi (fun y150 ey150 => ?_)
        have hf := bnd_of ey150 hf
        refine lv_istore_n (lv' := [(2, .int y150), (0, .ref (ad 0)), (1, .int x1), (3, .int x3)]) hx hb dX6_ownOf_136 rfl hl (by decide) rfl (fun ls hl => ?_)
        refine lv_iinc (v := (x3 + 1)) (lv' := [(3, .int (x3 + 1)), (2, .int y150), (0, .ref (ad 0)), (1, .int x1)]) hx hb dX6_ownOf_137 hl (k := 3) rfl rfl (by decide) rfl (fun ls hl => ?_)
        refine lv_goto (tgt := 14) hx hb dX6_ownOf_140 (by decide) ?_
        exact ih14 (x1) (y150) ((x3 + 1)) S H locs ls hP hS (lv_sub hl [2, 3, 1, 0] rfl) hf
  have K55 : ∀ (k14 : Int32 × Int32 × Int32 × MS → Option Int32), (∀ (x1 : Int32) (x2 : Int32) (x3 : Int32) (S : MS) (H : Heap) (locs : List Loc) (ls : Array Slot), va_P D vwCl (wM cy ad S) H → va_S A s.heap H locs → lv_has ls 5 [(0, .ref (ad 0)), (1, .int x1), (2, .int x2), (3, .int x3)] → k14 (x1, x2, x3, S) = some r → W p l e (headSpec wsX6_ownOf { frames := 5, cells := 0, slots := 0, locals := 112 }).room s m args below meth c H locs 0 0 (MQ below (QcI D A r (wM cy ad S)) args s 0 0 A) (F0 m 14 ls [])) → ∀ (x1 : Int32) (x2 : Int32) (x3 : Int32) (s0 : Bool) (S : MS) (H : Heap) (locs : List Loc) (ls : Array Slot), va_P D vwCl (wM cy ad S) H → va_S A s.heap H locs → lv_has ls 5 [(0, .ref (ad 0)), (1, .int x1), (2, .int x2), (3, .int x3)] → bX6_ownOf_55 k14 x1 x2 x3 s0 S = some r → W p l e (headSpec wsX6_ownOf { frames := 5, cells := 0, slots := 0, locals := 112 }).room s m args below meth c H locs 0 0 (MQ below (QcI D A r (wM cy ad S)) args s 0 0 A) (F0 m 55 ls [.int (bi s0)]) := by
    intro k14 ih14 x1 x2 x3 s0 S H locs ls hP hS hl hf
    unfold bX6_ownOf_55 at hf
    refine lv_istore (lv' := [(4, .int (bi s0)), (0, .ref (ad 0)), (1, .int x1), (2, .int x2), (3, .int x3)]) hx hb dX6_ownOf_55 hl (by decide) rfl (fun ls hl => ?_)
    refine lv_iload_n hx hb dX6_ownOf_57 rfl (lv_at hl 3 rfl) ?_
    refine lv_iload hx hb dX6_ownOf_58 (lv_at hl 0 rfl) ?_
    refine lv_if_eq (tgt := 92) hx hb dX6_ownOf_60 (by decide) (fun c151 => ?_) (fun c151 => ?_)
    · have hf := (if_pos c151).symm.trans hf
      refine lv_sipush (v := 255) hx hb dX6_ownOf_92 (by decide) ?_
      exact K95 k14 ih14 (x1) (x3) (x2) (255) S H locs ls hP hS (lv_sub hl [1, 2, 4] rfl) hf
    · have hf := (if_neg c151).symm.trans hf
      refine lv_aload_n hx hb dX6_ownOf_63 rfl (lv_at hl 1 rfl) ?_
      refine gfX6_2 hx hb hts (fun _ h => List.mem_cons_of_mem _ (List.mem_append_right _ h)) hown hK hP (hts (Cond.fieldLink RX6 13 "WhoSpeaksModel" "rules" "I") (List.mem_of_getElem? (i := 4) rfl)) dX6_ownOf_64 ?_
      refine lv_iconst (v := 0) hx hb dX6_ownOf_67 (by decide) ?_
      refine kSi (As := [.int (mi S 1), .int 0]) (rest := [.int x2]) ⟨hx, hb, hml, hown, hts⟩ (okX6_has l D cy A (wM cy ad S) (mi S 1) 0 _ rfl) (va_cwS 2 hts gX6_ownOf_X6_has rfl rfl rfl (by decide +kernel) ⟨Nat.le_of_ble_eq_true rfl, Nat.le_of_ble_eq_true rfl⟩) hK hP hS rfl hl.1 rfl (Nat.le_of_ble_eq_true rfl) dX6_ownOf_68 (fun H locs hP hS => ?_)
      refine lv_if_eq (tgt := 92) hx hb dX6_ownOf_71 (by decide) (fun c153 => ?_) (fun c153 => ?_)
      · have hf := (if_pos c153).symm.trans hf
        refine lv_sipush (v := 255) hx hb dX6_ownOf_92 (by decide) ?_
        exact K95 k14 ih14 (x1) (x3) (x2) (255) S H locs ls hP hS (lv_sub hl [1, 2, 4] rfl) hf
      · have hf := (if_neg c153).symm.trans hf
        refine lv_iconst (v := 1) hx hb dX6_ownOf_74 (by decide) ?_
        refine lv_aload_n hx hb dX6_ownOf_75 rfl (lv_at hl 1 rfl) ?_
        refine gfX6_8 hx hb hts (fun _ h => List.mem_cons_of_mem _ (List.mem_append_right _ h)) hown hK hP (hts (Cond.fieldLink RX6 26 "WhoSpeaksModel" "whom" "[I") (List.mem_of_getElem? (i := 3) rfl)) dX6_ownOf_76 ?_
        refine lv_bipush (v := 12) hx hb dX6_ownOf_79 (by decide) ?_
        refine lv_iload_n hx hb dX6_ownOf_81 rfl (lv_at hl 2 rfl) ?_
        refine lv_imul hx hb dX6_ownOf_82 ?_
        refine lv_iload_n hx hb dX6_ownOf_83 rfl (lv_at hl 4 rfl) ?_
        refine lv_iadd hx hb dX6_ownOf_84 ?_
        obtain ⟨c154, hf⟩ := ck_some hf
        refine alM5 hx hb hK hP c154 dX6_ownOf_85 ?_
        refine lv_ishl hx hb dX6_ownOf_86 ?_
        refine lv_iconst (v := (-1)) hx hb dX6_ownOf_87 (by decide) ?_
        refine lv_ixor hx hb dX6_ownOf_88 ?_
        refine lv_goto (tgt := 95) hx hb dX6_ownOf_89 (by decide) ?_
        exact K95 k14 ih14 (x1) (x3) (x2) ((((1 : Int32) <<< ((ma S 5 ((12 * x1) + x3).toNatClampNeg) &&& 31)) ^^^ (-1))) S H locs ls hP hS (lv_sub hl [1, 2, 4] rfl) hf
  have K14 : ∀ (n : Nat), ∀ (x1 : Int32) (x2 : Int32) (x3 : Int32) (S : MS) (H : Heap) (locs : List Loc) (ls : Array Slot), va_P D vwCl (wM cy ad S) H → va_S A s.heap H locs → lv_has ls 5 [(0, .ref (ad 0)), (1, .int x1), (2, .int x2), (3, .int x3)] → lp (fun k q => bX6_ownOf_14  k q.1 q.2.1 q.2.2.1 q.2.2.2) n (x1, x2, x3, S) = some r → W p l e (headSpec wsX6_ownOf { frames := 5, cells := 0, slots := 0, locals := 112 }).room s m args below meth c H locs 0 0 (MQ below (QcI D A r (wM cy ad S)) args s 0 0 A) (F0 m 14 ls []) := by
    intro  n
    induction n with
    | zero =>
      intro x1 x2 x3 S H locs ls hP hS hl hf
      cases hf
    | succ n ih14 =>
      intro x1 x2 x3 S H locs ls hP hS hl hf
      have hf : bX6_ownOf_14  (lp (fun k q => bX6_ownOf_14  k q.1 q.2.1 q.2.2.1 q.2.2.2) n) x1 x2 x3 S = some r := hf
      generalize lp (fun k q => bX6_ownOf_14  k q.1 q.2.1 q.2.2.1 q.2.2.2) n = k14 at hf ih14
      unfold bX6_ownOf_14 at hf
      refine lv_iload_n hx hb dX6_ownOf_14 rfl (lv_at hl 3 rfl) ?_
      refine lv_aload_n hx hb dX6_ownOf_15 rfl (lv_at hl 0 rfl) ?_
      refine gfX6_6 hx hb hts (fun _ h => List.mem_cons_of_mem _ (List.mem_append_right _ h)) hown hK hP (hts (Cond.fieldLink RX6 20 "WhoSpeaksModel" "itemsOf" "[I") (List.mem_of_getElem? (i := 2) rfl)) dX6_ownOf_16 ?_
      refine lv_iload_n hx hb dX6_ownOf_19 rfl (lv_at hl 1 rfl) ?_
      obtain ⟨c155, hf⟩ := ck_some hf
      refine alM3 hx hb hK hP c155 dX6_ownOf_20 ?_
      refine lv_icmp_ge (tgt := 143) hx hb dX6_ownOf_21 (by decide) (fun c156 => ?_) (fun c156 => ?_)
      · have hf := (if_pos c156).symm.trans hf
        refine lv_aload_n hx hb dX6_ownOf_143 rfl (lv_at hl 0 rfl) ?_
        refine gfX6_2 hx hb hts (fun _ h => List.mem_cons_of_mem _ (List.mem_append_right _ h)) hown hK hP (hts (Cond.fieldLink RX6 13 "WhoSpeaksModel" "rules" "I") (List.mem_of_getElem? (i := 4) rfl)) dX6_ownOf_144 ?_
        refine lv_iconst (v := 2) hx hb dX6_ownOf_147 (by decide) ?_
        refine kSi (As := [.int (mi S 1), .int 2]) (rest := []) ⟨hx, hb, hml, hown, hts⟩ (okX6_has l D cy A (wM cy ad S) (mi S 1) 2 _ rfl) (va_cwS 2 hts gX6_ownOf_X6_has rfl rfl rfl (by decide +kernel) ⟨Nat.le_of_ble_eq_true rfl, Nat.le_of_ble_eq_true rfl⟩) hK hP hS rfl hl.1 rfl (Nat.le_of_ble_eq_true rfl) dX6_ownOf_148 (fun H locs hP hS => ?_)
        refine lv_if_eq (tgt := 196) hx hb dX6_ownOf_151 (by decide) (fun c158 => ?_) (fun c158 => ?_)
        · have hf := (if_pos c158).symm.trans hf
          exact K196  (x1) (x2) S H locs ls hP hS (lv_sub hl [0, 1, 2] rfl) hf
        · have hf := (if_neg c158).symm.trans hf
          refine lv_aload_n hx hb dX6_ownOf_154 rfl (lv_at hl 0 rfl) ?_
          refine lv_iload_n hx hb dX6_ownOf_155 rfl (lv_at hl 1 rfl) ?_
          obtain ⟨r159, h160, hf⟩ := ob1_some hf
          refine kVi (As := [.int x1]) (rest := []) ⟨hx, hb, hml, hown, hts⟩ (okX6_manyCounting l D cy ad A hD x1 S r159 h160) (cwV 1 hts gX6_ownOf_X6_manyCounting rfl rfl rfl (by decide +kernel) ⟨Nat.le_of_ble_eq_true rfl, Nat.le_of_ble_eq_true rfl⟩) hK hP hS (va_recv hK.1 hP (ci := 6) (q := (RX6, TX6, 21)) rfl (atM0 cy ad S)) rfl hl.1 rfl (Nat.le_of_ble_eq_true rfl) dX6_ownOf_156 (fun H locs hP hS => ?_)
          refine lv_if_ne (tgt := 196) hx hb dX6_ownOf_159 (by decide) (fun c161 => ?_) (fun c161 => ?_)
          · have hf := (if_neg c161).symm.trans hf
            exact K196  (x1) (x2) S H locs ls hP hS (lv_sub hl [0, 1, 2] rfl) hf
          · have hf := (if_pos c161).symm.trans hf
            refine lv_aload_n hx hb dX6_ownOf_162 rfl (lv_at hl 0 rfl) ?_
            refine lv_iload_n hx hb dX6_ownOf_163 rfl (lv_at hl 1 rfl) ?_
            refine lv_iconst (v := 0) hx hb dX6_ownOf_164 (by decide) ?_
            refine lv_iconst (v := 5) hx hb dX6_ownOf_165 (by decide) ?_
            obtain ⟨r162, h163, hf⟩ := ob1_some hf
            refine kVi (As := [.int x1, .int 0, .int 5]) (rest := []) ⟨hx, hb, hml, hown, hts⟩ (okX6_isItem l D cy ad A hD x1 0 5 S r162 h163) (cwV 3 hts gX6_ownOf_X6_isItem rfl rfl rfl (by decide +kernel) ⟨Nat.le_of_ble_eq_true rfl, Nat.le_of_ble_eq_true rfl⟩) hK hP hS (va_recv hK.1 hP (ci := 6) (q := (RX6, TX6, 21)) rfl (atM0 cy ad S)) rfl hl.1 rfl (Nat.le_of_ble_eq_true rfl) dX6_ownOf_166 (fun H locs hP hS => ?_)
            refine lv_if_eq (tgt := 196) hx hb dX6_ownOf_169 (by decide) (fun c164 => ?_) (fun c164 => ?_)
            · have hf := (if_pos c164).symm.trans hf
              exact K196  (x1) (x2) S H locs ls hP hS (lv_sub hl [0, 1, 2] rfl) hf
            · have hf := (if_neg c164).symm.trans hf
              refine lv_aload_n hx hb dX6_ownOf_172 rfl (lv_at hl 0 rfl) ?_
              refine lv_iload_n hx hb dX6_ownOf_173 rfl (lv_at hl 1 rfl) ?_
              refine lv_iconst (v := 1) hx hb dX6_ownOf_174 (by decide) ?_
              refine lv_iconst (v := 2) hx hb dX6_ownOf_175 (by decide) ?_
              obtain ⟨r165, h166, hf⟩ := ob1_some hf
              refine kVi (As := [.int x1, .int 1, .int 2]) (rest := []) ⟨hx, hb, hml, hown, hts⟩ (okX6_isItem l D cy ad A hD x1 1 2 S r165 h166) (cwV 3 hts gX6_ownOf_X6_isItem rfl rfl rfl (by decide +kernel) ⟨Nat.le_of_ble_eq_true rfl, Nat.le_of_ble_eq_true rfl⟩) hK hP hS (va_recv hK.1 hP (ci := 6) (q := (RX6, TX6, 21)) rfl (atM0 cy ad S)) rfl hl.1 rfl (Nat.le_of_ble_eq_true rfl) dX6_ownOf_176 (fun H locs hP hS => ?_)
              refine lv_if_eq (tgt := 196) hx hb dX6_ownOf_179 (by decide) (fun c167 => ?_) (fun c167 => ?_)
              · have hf := (if_pos c167).symm.trans hf
                exact K196  (x1) (x2) S H locs ls hP hS (lv_sub hl [0, 1, 2] rfl) hf
              · have hf := (if_neg c167).symm.trans hf
                refine lv_iload_n hx hb dX6_ownOf_182 rfl (lv_at hl 2 rfl) ?_
                refine lv_iconst (v := 1) hx hb dX6_ownOf_183 (by decide) ?_
                refine lv_aload_n hx hb dX6_ownOf_184 rfl (lv_at hl 0 rfl) ?_
                refine gfX6_8 hx hb hts (fun _ h => List.mem_cons_of_mem _ (List.mem_append_right _ h)) hown hK hP (hts (Cond.fieldLink RX6 26 "WhoSpeaksModel" "whom" "[I") (List.mem_of_getElem? (i := 3) rfl)) dX6_ownOf_185 ?_
                refine lv_bipush (v := 12) hx hb dX6_ownOf_188 (by decide) ?_
                refine lv_iload_n hx hb dX6_ownOf_190 rfl (lv_at hl 1 rfl) ?_
                refine lv_imul hx hb dX6_ownOf_191 ?_
                obtain ⟨c168, hf⟩ := ck_some hf
                refine alM5 hx hb hK hP c168 dX6_ownOf_192 ?_
                refine lv_ishl hx hb dX6_ownOf_193 ?_
                refine lv_iand hx hb dX6_ownOf_194 ?_
                refine lv_topi (fun y169 ey169 => ?_)
                have hf := bnd_of ey169 hf
                refine lv_istore_n (lv' := [(2, .int y169), (0, .ref (ad 0)), (1, .int x1), (3, .int x3)]) hx hb dX6_ownOf_195 rfl hl (by decide) rfl (fun ls hl => ?_)
                exact K196  (x1) (y169) S H locs ls hP hS (lv_sub hl [1, 2, 0] rfl) hf
      · have hf := (if_neg c156).symm.trans hf
        refine lv_aload_n hx hb dX6_ownOf_24 rfl (lv_at hl 0 rfl) ?_
        refine lv_iload_n hx hb dX6_ownOf_25 rfl (lv_at hl 1 rfl) ?_
        refine lv_iload_n hx hb dX6_ownOf_26 rfl (lv_at hl 3 rfl) ?_
        refine lv_iconst (v := 0) hx hb dX6_ownOf_27 (by decide) ?_
        obtain ⟨r170, h171, hf⟩ := ob1_some hf
        refine kVi (As := [.int x1, .int x3, .int 0]) (rest := []) ⟨hx, hb, hml, hown, hts⟩ (okX6_isItem l D cy ad A hD x1 x3 0 S r170 h171) (cwV 3 hts gX6_ownOf_X6_isItem rfl rfl rfl (by decide +kernel) ⟨Nat.le_of_ble_eq_true rfl, Nat.le_of_ble_eq_true rfl⟩) hK hP hS (va_recv hK.1 hP (ci := 6) (q := (RX6, TX6, 21)) rfl (atM0 cy ad S)) rfl hl.1 rfl (Nat.le_of_ble_eq_true rfl) dX6_ownOf_28 (fun H locs hP hS => ?_)
        refine lv_if_eq (tgt := 54) hx hb dX6_ownOf_31 (by decide) (fun c172 => ?_) (fun c172 => ?_)
        · have hf := (if_pos c172).symm.trans hf
          refine lv_iconst (v := 0) hx hb dX6_ownOf_54 (by decide) ?_
          exact K55 k14 ih14 (x1) (x2) (x3) (false) S H locs ls hP hS (lv_sub hl [0, 1, 2, 3] rfl) hf
        · have hf := (if_neg c172).symm.trans hf
          refine lv_aload_n hx hb dX6_ownOf_34 rfl (lv_at hl 0 rfl) ?_
          refine gfX6_8 hx hb hts (fun _ h => List.mem_cons_of_mem _ (List.mem_append_right _ h)) hown hK hP (hts (Cond.fieldLink RX6 26 "WhoSpeaksModel" "whom" "[I") (List.mem_of_getElem? (i := 3) rfl)) dX6_ownOf_35 ?_
          refine lv_bipush (v := 12) hx hb dX6_ownOf_38 (by decide) ?_
          refine lv_iload_n hx hb dX6_ownOf_40 rfl (lv_at hl 1 rfl) ?_
          refine lv_imul hx hb dX6_ownOf_41 ?_
          refine lv_iload_n hx hb dX6_ownOf_42 rfl (lv_at hl 3 rfl) ?_
          refine lv_iadd hx hb dX6_ownOf_43 ?_
          obtain ⟨c173, hf⟩ := ck_some hf
          refine alM5 hx hb hK hP c173 dX6_ownOf_44 ?_
          refine lv_bipush (v := (-9)) hx hb dX6_ownOf_45 (by decide) ?_
          refine lv_icmp_eq (tgt := 54) hx hb dX6_ownOf_47 (by decide) (fun c174 => ?_) (fun c174 => ?_)
          · have hf := (if_pos c174).symm.trans hf
            refine lv_iconst (v := 0) hx hb dX6_ownOf_54 (by decide) ?_
            exact K55 k14 ih14 (x1) (x2) (x3) (false) S H locs ls hP hS (lv_sub hl [0, 1, 2, 3] rfl) hf
          · have hf := (if_neg c174).symm.trans hf
            refine lv_iconst (v := 1) hx hb dX6_ownOf_50 (by decide) ?_
            refine lv_goto (tgt := 55) hx hb dX6_ownOf_51 (by decide) ?_
            exact K55 k14 ih14 (x1) (x2) (x3) (true) S H locs ls hP hS (lv_sub hl [0, 1, 2, 3] rfl) hf
  unfold fX6_ownOf at hf
  suffices hG : ∀ (H : Heap) (locs : List Loc), va_P D vwCl (wM cy ad S) H → va_S A s.heap H locs → W p l e (headSpec wsX6_ownOf { frames := 5, cells := 0, slots := 0, locals := 112 }).room s m args below meth c H locs 0 0 (MQ below (QcI D A r (wM cy ad S)) args s 0 0 A) (F0 m 0 ls []) by exact hG s.heap [] hP va_S.rf
  clear hP hS
  intro H locs hP hS
  refine lv_aload_n hx hb dX6_ownOf_0 rfl (lv_at hl 0 rfl) ?_
  refine gfX6_10 hx hb hts (fun _ h => List.mem_cons_of_mem _ (List.mem_append_right _ h)) hown hK hP (hts (Cond.fieldLink RX6 33 "WhoSpeaksModel" "wereHere" "[I") (List.mem_of_getElem? (i := 1) rfl)) dX6_ownOf_1 ?_
  refine lv_iload_n hx hb dX6_ownOf_4 rfl (lv_at hl 1 rfl) ?_
  obtain ⟨c175, hf⟩ := ck_some hf
  refine alM7 hx hb hK hP c175 dX6_ownOf_5 ?_
  refine lv_aload_n hx hb dX6_ownOf_6 rfl (lv_at hl 0 rfl) ?_
  obtain ⟨r176, h177, hf⟩ := ob1_some hf
  refine kVi (As := []) (rest := [.int (ma S 7 p0.toNatClampNeg)]) ⟨hx, hb, hml, hown, hts⟩ (okX6_there l D cy ad A hD  S r176 h177) (cwV 0 hts gX6_ownOf_X6_there rfl rfl rfl (by decide +kernel) ⟨Nat.le_of_ble_eq_true rfl, Nat.le_of_ble_eq_true rfl⟩) hK hP hS (va_recv hK.1 hP (ci := 6) (q := (RX6, TX6, 21)) rfl (atM0 cy ad S)) rfl hl.1 rfl (Nat.le_of_ble_eq_true rfl) dX6_ownOf_7 (fun H locs hP hS => ?_)
  refine lv_iand hx hb dX6_ownOf_10 ?_
  refine lv_topi (fun y178 ey178 => ?_)
  have hf := bnd_of ey178 hf
  refine lv_istore_n (lv' := [(2, .int y178), (0, .ref (ad 0)), (1, .int p0)]) hx hb dX6_ownOf_11 rfl hl (by decide) rfl (fun ls hl => ?_)
  refine lv_iconst (v := 0) hx hb dX6_ownOf_12 (by decide) ?_
  refine lv_istore_n (lv' := [(3, .int 0), (2, .int y178), (0, .ref (ad 0)), (1, .int p0)]) hx hb dX6_ownOf_13 rfl hl (by decide) rfl (fun ls hl => ?_)
  exact K14  FU (p0) (y178) (0) S H locs ls hP hS (lv_sub hl [2, 3, 1, 0] rfl) hf

def bX6_away_25  (k25 : Int32 × Int32 × Int32 × MS → Option (Int32 × MS)) (x1 : Int32) (x2 : Int32) (x3 : Int32) (S : MS) : Option (Int32 × MS) := (if (mi S 3) ≤ x3 then (ck x1 8 (bnd (maW S 1 x1.toNatClampNeg (-9)) (fun S37 => (bnd (miW S37 0 ((mi S37 0) &&& (((1 : Int32) <<< (x1 &&& 31)) ^^^ (-1)))) (fun S39 => (some (x2, S39))))))) else (ob1 (fX6_speaks x3 S) (fun r40 => (if (bi r40) = 0 then (bnd ((x2 + 0)) (fun y43 => (k25 (x1, y43, (x3 + 1), S)))) else (ob1 (fX6_ownOf x3 S) (fun r44 => (if (bi (fX6_has r44 x1)) = 0 then (bnd ((x2 + 0)) (fun y48 => (k25 (x1, y48, (x3 + 1), S)))) else (bnd ((x2 + 1)) (fun y49 => (k25 (x1, y49, (x3 + 1), S)))))))))))
def fX6_away (p0 : Int32) (S : MS) : Option (Int32 × MS) := (ob1 (fX6_isThere p0 S) (fun r50 => (if (bi r50) = 0 then (some ((-1), S)) else (ob1 (fX6_isNamed p0 S) (fun r53 => (if (bi r53) = 0 then (lp (fun k q => bX6_away_25  k q.1 q.2.1 q.2.2.1 q.2.2.2) FU (p0, 0, 0, S)) else (some ((-3), S))))))))
set_option maxHeartbeats 4000000 in
set_option maxRecDepth 100000 in
theorem okX6_away (l : Launch) (D : va_G) (cy : Nat → ClassId) (ad : Nat → Nat) (A : Nat → Prop) (hD : ∀ S, va_D A (wM cy ad S)) (p0 : Int32) (S : MS) (r : Int32) (S' : MS) (hf : fX6_away p0 S = some (r, S')) : MI l yX6_away wsX6_away { frames := 6, cells := 0, slots := 0, locals := 136 } D cy A (wM cy ad S) [.ref (ad 0), .int p0] r (wM cy ad S') := by
  refine Met.ofW (cc := cX6_away) (maxL := 4) (ret := (some .int)) (by decide) rfl ?_
  intro p e s m args below meth c s₁ B hml hv
  obtain ⟨ha, hP, hK⟩ := hv
  have hx := B.exec
  have hb := B.bytes
  have hr := B.returns
  have hts := atoms_spec (ws := wsX6_away) B.pre
  have hown : s.vm.findClass RX6 = some m.cls := findClass_of_methodNamed B.named
  have hlocks := B.notSynchronized
  have hS : va_S A s.heap s.heap [] := va_S.rf
  obtain ⟨ls, hl, he0⟩ := ent (m := m) ha (n := 4) (Nat.le_of_ble_eq_true rfl)
  refine W.eq he0 ?_
  have hl : lv_has ls 4 [(0, .ref (ad 0)), (1, .int p0)] := hl
  have K25 : ∀ (n : Nat), ∀ (x1 : Int32) (x2 : Int32) (x3 : Int32) (S : MS) (H : Heap) (locs : List Loc) (ls : Array Slot), va_P D vwCl (wM cy ad S) H → va_S A s.heap H locs → lv_has ls 4 [(0, .ref (ad 0)), (1, .int x1), (2, .int x2), (3, .int x3)] → lp (fun k q => bX6_away_25  k q.1 q.2.1 q.2.2.1 q.2.2.2) n (x1, x2, x3, S) = some (r, S') → W p l e (headSpec wsX6_away { frames := 6, cells := 0, slots := 0, locals := 136 }).room s m args below meth c H locs 0 0 (MQ below (QcI D A r (wM cy ad S')) args s 0 0 A) (F0 m 25 ls []) := by
    intro  n
    induction n with
    | zero =>
      intro x1 x2 x3 S H locs ls hP hS hl hf
      cases hf
    | succ n ih25 =>
      intro x1 x2 x3 S H locs ls hP hS hl hf
      have hf : bX6_away_25  (lp (fun k q => bX6_away_25  k q.1 q.2.1 q.2.2.1 q.2.2.2) n) x1 x2 x3 S = some (r, S') := hf
      generalize lp (fun k q => bX6_away_25  k q.1 q.2.1 q.2.2.1 q.2.2.2) n = k25 at hf ih25
      unfold bX6_away_25 at hf
      refine lv_iload_n hx hb dX6_away_25 rfl (lv_at hl 3 rfl) ?_
      refine lv_aload_n hx hb dX6_away_26 rfl (lv_at hl 0 rfl) ?_
      refine gfX6_5 hx hb hts (fun _ h => List.mem_cons_of_mem _ (List.mem_append_right _ h)) hown hK hP (hts (Cond.fieldLink RX6 68 "WhoSpeaksModel" "paragraphs" "I") (List.mem_of_getElem? (i := 1) rfl)) dX6_away_27 ?_
      refine lv_icmp_ge (tgt := 67) hx hb dX6_away_30 (by decide) (fun c36 => ?_) (fun c36 => ?_)
      · have hf := (if_pos c36).symm.trans hf
        refine lv_aload_n hx hb dX6_away_67 rfl (lv_at hl 0 rfl) ?_
        refine gfX6_0 hx hb hts (fun _ h => List.mem_cons_of_mem _ (List.mem_append_right _ h)) hown hK hP (hts (Cond.fieldLink RX6 7 "WhoSpeaksModel" "sortOf" "[I") (List.mem_of_getElem? (i := 2) rfl)) dX6_away_68 ?_
        refine lv_iload_n hx hb dX6_away_71 rfl (lv_at hl 1 rfl) ?_
        refine lv_bipush (v := (-9)) hx hb dX6_away_72 (by decide) ?_
        obtain ⟨c38, hf⟩ := ck_some hf
        refine asM1 (v := (-9)) hx hb hK hP hD hS c38 dX6_away_74 (fun S37 eS37 H locs hP hS => ?_)
        have hf := bnd_of eS37 hf
        refine lv_aload_n hx hb dX6_away_75 rfl (lv_at hl 0 rfl) ?_
        refine lv_dup hx hb dX6_away_76 rfl ?_
        refine gfX6_1 hx hb hts (fun _ h => List.mem_cons_of_mem _ (List.mem_append_right _ h)) hown hK hP (hts (Cond.fieldLink RX6 89 "WhoSpeaksModel" "here" "I") (List.mem_of_getElem? (i := 3) rfl)) dX6_away_77 ?_
        refine lv_iconst (v := 1) hx hb dX6_away_80 (by decide) ?_
        refine lv_iload_n hx hb dX6_away_81 rfl (lv_at hl 1 rfl) ?_
        refine lv_ishl hx hb dX6_away_82 ?_
        refine lv_iconst (v := (-1)) hx hb dX6_away_83 (by decide) ?_
        refine lv_ixor hx hb dX6_away_84 ?_
        refine lv_iand hx hb dX6_away_85 ?_
        refine pfX6_1 (v := ((mi S37 0) &&& (((1 : Int32) <<< (x1 &&& 31)) ^^^ (-1)))) hx hb hts (fun _ h => List.mem_cons_of_mem _ (List.mem_append_right _ h)) hown hK hP hD hS (hts (Cond.fieldLink RX6 89 "WhoSpeaksModel" "here" "I") (List.mem_of_getElem? (i := 3) rfl)) dX6_away_86 (fun S39 eS39 H locs hP hS => ?_)
        have hf := bnd_of eS39 hf
        refine lv_iload_n hx hb dX6_away_89 rfl (lv_at hl 2 rfl) ?_
        obtain ⟨he, hS9⟩ := Prod.mk.inj (Option.some.inj hf)
        subst hS9
        exact rI hx hb hr hP hS he hlocks dX6_away_90
      · have hf := (if_neg c36).symm.trans hf
        refine lv_iload_n hx hb dX6_away_33 rfl (lv_at hl 2 rfl) ?_
        refine lv_aload_n hx hb dX6_away_34 rfl (lv_at hl 0 rfl) ?_
        refine lv_iload_n hx hb dX6_away_35 rfl (lv_at hl 3 rfl) ?_
        obtain ⟨r40, h41, hf⟩ := ob1_some hf
        refine kVi (As := [.int x3]) (rest := [.int x2]) ⟨hx, hb, hml, hown, hts⟩ (okX6_speaks l D cy ad A hD x3 S r40 h41) (cwV 1 hts gX6_away_X6_speaks rfl rfl rfl (by decide +kernel) ⟨Nat.le_of_ble_eq_true rfl, Nat.le_of_ble_eq_true rfl⟩) hK hP hS (va_recv hK.1 hP (ci := 6) (q := (RX6, TX6, 21)) rfl (atM0 cy ad S)) rfl hl.1 rfl (Nat.le_of_ble_eq_true rfl) dX6_away_36 (fun H locs hP hS => ?_)
        refine lv_if_eq (tgt := 58) hx hb dX6_away_39 (by decide) (fun c42 => ?_) (fun c42 => ?_)
        · have hf := (if_pos c42).symm.trans hf
          refine lv_iconst (v := 0) hx hb dX6_away_58 (by decide) ?_
          refine lv_iadd hx hb dX6_away_59 ?_
          refine lv_topi (fun y43 ey43 => ?_)
          have hf := bnd_of ey43 hf
          refine lv_istore_n (lv' := [(2, .int y43), (0, .ref (ad 0)), (1, .int x1), (3, .int x3)]) hx hb dX6_away_60 rfl hl (by decide) rfl (fun ls hl => ?_)
          refine lv_iinc (v := (x3 + 1)) (lv' := [(3, .int (x3 + 1)), (2, .int y43), (0, .ref (ad 0)), (1, .int x1)]) hx hb dX6_away_61 hl (k := 3) rfl rfl (by decide) rfl (fun ls hl => ?_)
          refine lv_goto (tgt := 25) hx hb dX6_away_64 (by decide) ?_
          exact ih25 (x1) (y43) ((x3 + 1)) S H locs ls hP hS (lv_sub hl [2, 3, 1, 0] rfl) hf
        · have hf := (if_neg c42).symm.trans hf
          refine lv_aload_n hx hb dX6_away_42 rfl (lv_at hl 0 rfl) ?_
          refine lv_iload_n hx hb dX6_away_43 rfl (lv_at hl 3 rfl) ?_
          obtain ⟨r44, h45, hf⟩ := ob1_some hf
          refine kVi (As := [.int x3]) (rest := [.int x2]) ⟨hx, hb, hml, hown, hts⟩ (okX6_ownOf l D cy ad A hD x3 S r44 h45) (cwV 1 hts gX6_away_X6_ownOf rfl rfl rfl (by decide +kernel) ⟨Nat.le_of_ble_eq_true rfl, Nat.le_of_ble_eq_true rfl⟩) hK hP hS (va_recv hK.1 hP (ci := 6) (q := (RX6, TX6, 21)) rfl (atM0 cy ad S)) rfl hl.1 rfl (Nat.le_of_ble_eq_true rfl) dX6_away_44 (fun H locs hP hS => ?_)
          refine lv_iload_n hx hb dX6_away_47 rfl (lv_at hl 1 rfl) ?_
          refine kSi (As := [.int r44, .int x1]) (rest := [.int x2]) ⟨hx, hb, hml, hown, hts⟩ (okX6_has l D cy A (wM cy ad S) r44 x1 _ rfl) (va_cwS 2 hts gX6_away_X6_has rfl rfl rfl (by decide +kernel) ⟨Nat.le_of_ble_eq_true rfl, Nat.le_of_ble_eq_true rfl⟩) hK hP hS rfl hl.1 rfl (Nat.le_of_ble_eq_true rfl) dX6_away_48 (fun H locs hP hS => ?_)
          refine lv_if_eq (tgt := 58) hx hb dX6_away_51 (by decide) (fun c47 => ?_) (fun c47 => ?_)
          · have hf := (if_pos c47).symm.trans hf
            refine lv_iconst (v := 0) hx hb dX6_away_58 (by decide) ?_
            refine lv_iadd hx hb dX6_away_59 ?_
            refine lv_topi (fun y48 ey48 => ?_)
            have hf := bnd_of ey48 hf
            refine lv_istore_n (lv' := [(2, .int y48), (0, .ref (ad 0)), (1, .int x1), (3, .int x3)]) hx hb dX6_away_60 rfl hl (by decide) rfl (fun ls hl => ?_)
            refine lv_iinc (v := (x3 + 1)) (lv' := [(3, .int (x3 + 1)), (2, .int y48), (0, .ref (ad 0)), (1, .int x1)]) hx hb dX6_away_61 hl (k := 3) rfl rfl (by decide) rfl (fun ls hl => ?_)
            refine lv_goto (tgt := 25) hx hb dX6_away_64 (by decide) ?_
            exact ih25 (x1) (y48) ((x3 + 1)) S H locs ls hP hS (lv_sub hl [2, 3, 1, 0] rfl) hf
          · have hf := (if_neg c47).symm.trans hf
            refine lv_iconst (v := 1) hx hb dX6_away_54 (by decide) ?_
            refine lv_goto (tgt := 59) hx hb dX6_away_55 (by decide) ?_
            refine lv_iadd hx hb dX6_away_59 ?_
            refine lv_topi (fun y49 ey49 => ?_)
            have hf := bnd_of ey49 hf
            refine lv_istore_n (lv' := [(2, .int y49), (0, .ref (ad 0)), (1, .int x1), (3, .int x3)]) hx hb dX6_away_60 rfl hl (by decide) rfl (fun ls hl => ?_)
            refine lv_iinc (v := (x3 + 1)) (lv' := [(3, .int (x3 + 1)), (2, .int y49), (0, .ref (ad 0)), (1, .int x1)]) hx hb dX6_away_61 hl (k := 3) rfl rfl (by decide) rfl (fun ls hl => ?_)
            refine lv_goto (tgt := 25) hx hb dX6_away_64 (by decide) ?_
            exact ih25 (x1) (y49) ((x3 + 1)) S H locs ls hP hS (lv_sub hl [2, 3, 1, 0] rfl) hf
  unfold fX6_away at hf
  suffices hG : ∀ (H : Heap) (locs : List Loc), va_P D vwCl (wM cy ad S) H → va_S A s.heap H locs → W p l e (headSpec wsX6_away { frames := 6, cells := 0, slots := 0, locals := 136 }).room s m args below meth c H locs 0 0 (MQ below (QcI D A r (wM cy ad S')) args s 0 0 A) (F0 m 0 ls []) by exact hG s.heap [] hP va_S.rf
  clear hP hS
  intro H locs hP hS
  refine lv_aload_n hx hb dX6_away_0 rfl (lv_at hl 0 rfl) ?_
  refine lv_iload_n hx hb dX6_away_1 rfl (lv_at hl 1 rfl) ?_
  obtain ⟨r50, h51, hf⟩ := ob1_some hf
  refine kVi (As := [.int p0]) (rest := []) ⟨hx, hb, hml, hown, hts⟩ (okX6_isThere l D cy ad A hD p0 S r50 h51) (cwV 1 hts gX6_away_X6_isThere rfl rfl rfl (by decide +kernel) ⟨Nat.le_of_ble_eq_true rfl, Nat.le_of_ble_eq_true rfl⟩) hK hP hS (va_recv hK.1 hP (ci := 6) (q := (RX6, TX6, 21)) rfl (atM0 cy ad S)) rfl hl.1 rfl (Nat.le_of_ble_eq_true rfl) dX6_away_2 (fun H locs hP hS => ?_)
  refine lv_if_ne (tgt := 10) hx hb dX6_away_5 (by decide) (fun c52 => ?_) (fun c52 => ?_)
  · have hf := (if_neg c52).symm.trans hf
    refine lv_aload_n hx hb dX6_away_10 rfl (lv_at hl 0 rfl) ?_
    refine lv_iload_n hx hb dX6_away_11 rfl (lv_at hl 1 rfl) ?_
    obtain ⟨r53, h54, hf⟩ := ob1_some hf
    refine kVi (As := [.int p0]) (rest := []) ⟨hx, hb, hml, hown, hts⟩ (okX6_isNamed l D cy ad A hD p0 S r53 h54) (cwV 1 hts gX6_away_X6_isNamed rfl rfl rfl (by decide +kernel) ⟨Nat.le_of_ble_eq_true rfl, Nat.le_of_ble_eq_true rfl⟩) hK hP hS (va_recv hK.1 hP (ci := 6) (q := (RX6, TX6, 21)) rfl (atM0 cy ad S)) rfl hl.1 rfl (Nat.le_of_ble_eq_true rfl) dX6_away_12 (fun H locs hP hS => ?_)
    refine lv_if_eq (tgt := 21) hx hb dX6_away_15 (by decide) (fun c55 => ?_) (fun c55 => ?_)
    · have hf := (if_pos c55).symm.trans hf
      refine lv_iconst (v := 0) hx hb dX6_away_21 (by decide) ?_
      refine lv_istore_n (lv' := [(2, .int 0), (0, .ref (ad 0)), (1, .int p0)]) hx hb dX6_away_22 rfl hl (by decide) rfl (fun ls hl => ?_)
      refine lv_iconst (v := 0) hx hb dX6_away_23 (by decide) ?_
      refine lv_istore_n (lv' := [(3, .int 0), (2, .int 0), (0, .ref (ad 0)), (1, .int p0)]) hx hb dX6_away_24 rfl hl (by decide) rfl (fun ls hl => ?_)
      exact K25  FU (p0) (0) (0) S H locs ls hP hS (lv_sub hl [2, 3, 1, 0] rfl) hf
    · have hf := (if_neg c55).symm.trans hf
      refine lv_bipush (v := (-3)) hx hb dX6_away_18 (by decide) ?_
      obtain ⟨he, hS9⟩ := Prod.mk.inj (Option.some.inj hf)
      subst hS9
      exact rI hx hb hr hP hS he hlocks dX6_away_20
  · have hf := (if_pos c52).symm.trans hf
    refine lv_iconst (v := (-1)) hx hb dX6_away_8 (by decide) ?_
    obtain ⟨he, hS9⟩ := Prod.mk.inj (Option.some.inj hf)
    subst hS9
    exact rI hx hb hr hP hS he hlocks dX6_away_9

def fX6_here (p0 : Int32) (S : MS) : Option (Int32 × MS) := (if (bi (fX6_within p0 0 255)) = 0 then (some ((-2), S)) else (ob1 (fX6_there  S) (fun r7 => (if (p0 &&& (r7 ^^^ (-1))) = 0 then (bnd ((mi S 0)) (fun y10 => (bnd (miW S 0 p0) (fun S11 => (some (y10, S11)))))) else (some ((-2), S))))))
set_option maxHeartbeats 4000000 in
set_option maxRecDepth 100000 in
theorem okX6_here (l : Launch) (D : va_G) (cy : Nat → ClassId) (ad : Nat → Nat) (A : Nat → Prop) (hD : ∀ S, va_D A (wM cy ad S)) (p0 : Int32) (S : MS) (r : Int32) (S' : MS) (hf : fX6_here p0 S = some (r, S')) : MI l yX6_here wsX6_here { frames := 1, cells := 0, slots := 0, locals := 22 } D cy A (wM cy ad S) [.ref (ad 0), .int p0] r (wM cy ad S') := by
  refine Met.ofW (cc := cX6_here) (maxL := 3) (ret := (some .int)) (by decide) rfl ?_
  intro p e s m args below meth c s₁ B hml hv
  obtain ⟨ha, hP, hK⟩ := hv
  have hx := B.exec
  have hb := B.bytes
  have hr := B.returns
  have hts := atoms_spec (ws := wsX6_here) B.pre
  have hown : s.vm.findClass RX6 = some m.cls := findClass_of_methodNamed B.named
  have hlocks := B.notSynchronized
  have hS : va_S A s.heap s.heap [] := va_S.rf
  obtain ⟨ls, hl, he0⟩ := ent (m := m) ha (n := 3) (Nat.le_of_ble_eq_true rfl)
  refine W.eq he0 ?_
  have hl : lv_has ls 3 [(0, .ref (ad 0)), (1, .int p0)] := hl
  unfold fX6_here at hf
  suffices hG : ∀ (H : Heap) (locs : List Loc), va_P D vwCl (wM cy ad S) H → va_S A s.heap H locs → W p l e (headSpec wsX6_here { frames := 1, cells := 0, slots := 0, locals := 22 }).room s m args below meth c H locs 0 0 (MQ below (QcI D A r (wM cy ad S')) args s 0 0 A) (F0 m 0 ls []) by exact hG s.heap [] hP va_S.rf
  clear hP hS
  intro H locs hP hS
  refine lv_iload_n hx hb dX6_here_0 rfl (lv_at hl 1 rfl) ?_
  refine lv_iconst (v := 0) hx hb dX6_here_1 (by decide) ?_
  refine lv_sipush (v := 255) hx hb dX6_here_2 (by decide) ?_
  refine kSi (As := [.int p0, .int 0, .int 255]) (rest := []) ⟨hx, hb, hml, hown, hts⟩ (okX6_within l D cy A (wM cy ad S) p0 0 255 _ rfl) (va_cwS 3 hts gX6_here_X6_within rfl rfl rfl (by decide +kernel) ⟨Nat.le_of_ble_eq_true rfl, Nat.le_of_ble_eq_true rfl⟩) hK hP hS rfl hl.1 rfl (Nat.le_of_ble_eq_true rfl) dX6_here_5 (fun H locs hP hS => ?_)
  refine lv_if_eq (tgt := 22) hx hb dX6_here_8 (by decide) (fun c6 => ?_) (fun c6 => ?_)
  · have hf := (if_pos c6).symm.trans hf
    refine lv_bipush (v := (-2)) hx hb dX6_here_22 (by decide) ?_
    obtain ⟨he, hS9⟩ := Prod.mk.inj (Option.some.inj hf)
    subst hS9
    exact rI hx hb hr hP hS he hlocks dX6_here_24
  · have hf := (if_neg c6).symm.trans hf
    refine lv_iload_n hx hb dX6_here_11 rfl (lv_at hl 1 rfl) ?_
    refine lv_aload_n hx hb dX6_here_12 rfl (lv_at hl 0 rfl) ?_
    obtain ⟨r7, h8, hf⟩ := ob1_some hf
    refine kVi (As := []) (rest := [.int p0]) ⟨hx, hb, hml, hown, hts⟩ (okX6_there l D cy ad A hD  S r7 h8) (cwV 0 hts gX6_here_X6_there rfl rfl rfl (by decide +kernel) ⟨Nat.le_of_ble_eq_true rfl, Nat.le_of_ble_eq_true rfl⟩) hK hP hS (va_recv hK.1 hP (ci := 6) (q := (RX6, TX6, 21)) rfl (atM0 cy ad S)) rfl hl.1 rfl (Nat.le_of_ble_eq_true rfl) dX6_here_13 (fun H locs hP hS => ?_)
    refine lv_iconst (v := (-1)) hx hb dX6_here_16 (by decide) ?_
    refine lv_ixor hx hb dX6_here_17 ?_
    refine lv_iand hx hb dX6_here_18 ?_
    refine lv_if_eq (tgt := 25) hx hb dX6_here_19 (by decide) (fun c9 => ?_) (fun c9 => ?_)
    · have hf := (if_pos c9).symm.trans hf
      refine lv_aload_n hx hb dX6_here_25 rfl (lv_at hl 0 rfl) ?_
      refine gfX6_1 hx hb hts (fun _ h => List.mem_cons_of_mem _ (List.mem_append_right _ h)) hown hK hP (hts (Cond.fieldLink RX6 89 "WhoSpeaksModel" "here" "I") (List.mem_of_getElem? (i := 1) rfl)) dX6_here_26 ?_
      refine lv_topi (fun y10 ey10 => ?_)
      have hf := bnd_of ey10 hf
      refine lv_istore_n (lv' := [(2, .int y10), (0, .ref (ad 0)), (1, .int p0)]) hx hb dX6_here_29 rfl hl (by decide) rfl (fun ls hl => ?_)
      refine lv_aload_n hx hb dX6_here_30 rfl (lv_at hl 1 rfl) ?_
      refine lv_iload_n hx hb dX6_here_31 rfl (lv_at hl 2 rfl) ?_
      refine pfX6_1 (v := p0) hx hb hts (fun _ h => List.mem_cons_of_mem _ (List.mem_append_right _ h)) hown hK hP hD hS (hts (Cond.fieldLink RX6 89 "WhoSpeaksModel" "here" "I") (List.mem_of_getElem? (i := 1) rfl)) dX6_here_32 (fun S11 eS11 H locs hP hS => ?_)
      have hf := bnd_of eS11 hf
      refine lv_iload_n hx hb dX6_here_35 rfl (lv_at hl 0 rfl) ?_
      obtain ⟨he, hS9⟩ := Prod.mk.inj (Option.some.inj hf)
      subst hS9
      exact rI hx hb hr hP hS he hlocks dX6_here_36
    · have hf := (if_neg c9).symm.trans hf
      refine lv_bipush (v := (-2)) hx hb dX6_here_22 (by decide) ?_
      obtain ⟨he, hS9⟩ := Prod.mk.inj (Option.some.inj hf)
      subst hS9
      exact rI hx hb hr hP hS he hlocks dX6_here_24

def fX6_rules (p0 : Int32) (S : MS) : Option (Int32 × MS) := (if (bi (fX6_within p0 0 15)) = 0 then (some ((-2), S)) else (bnd ((mi S 1)) (fun y6 => (bnd (miW S 1 p0) (fun S7 => (some (y6, S7)))))))
set_option maxHeartbeats 4000000 in
set_option maxRecDepth 100000 in
theorem okX6_rules (l : Launch) (D : va_G) (cy : Nat → ClassId) (ad : Nat → Nat) (A : Nat → Prop) (hD : ∀ S, va_D A (wM cy ad S)) (p0 : Int32) (S : MS) (r : Int32) (S' : MS) (hf : fX6_rules p0 S = some (r, S')) : MI l yX6_rules wsX6_rules { frames := 1, cells := 0, slots := 0, locals := 22 } D cy A (wM cy ad S) [.ref (ad 0), .int p0] r (wM cy ad S') := by
  refine Met.ofW (cc := cX6_rules) (maxL := 3) (ret := (some .int)) (by decide) rfl ?_
  intro p e s m args below meth c s₁ B hml hv
  obtain ⟨ha, hP, hK⟩ := hv
  have hx := B.exec
  have hb := B.bytes
  have hr := B.returns
  have hts := atoms_spec (ws := wsX6_rules) B.pre
  have hown : s.vm.findClass RX6 = some m.cls := findClass_of_methodNamed B.named
  have hlocks := B.notSynchronized
  have hS : va_S A s.heap s.heap [] := va_S.rf
  obtain ⟨ls, hl, he0⟩ := ent (m := m) ha (n := 3) (Nat.le_of_ble_eq_true rfl)
  refine W.eq he0 ?_
  have hl : lv_has ls 3 [(0, .ref (ad 0)), (1, .int p0)] := hl
  unfold fX6_rules at hf
  suffices hG : ∀ (H : Heap) (locs : List Loc), va_P D vwCl (wM cy ad S) H → va_S A s.heap H locs → W p l e (headSpec wsX6_rules { frames := 1, cells := 0, slots := 0, locals := 22 }).room s m args below meth c H locs 0 0 (MQ below (QcI D A r (wM cy ad S')) args s 0 0 A) (F0 m 0 ls []) by exact hG s.heap [] hP va_S.rf
  clear hP hS
  intro H locs hP hS
  refine lv_iload_n hx hb dX6_rules_0 rfl (lv_at hl 1 rfl) ?_
  refine lv_iconst (v := 0) hx hb dX6_rules_1 (by decide) ?_
  refine lv_bipush (v := 15) hx hb dX6_rules_2 (by decide) ?_
  refine kSi (As := [.int p0, .int 0, .int 15]) (rest := []) ⟨hx, hb, hml, hown, hts⟩ (okX6_within l D cy A (wM cy ad S) p0 0 15 _ rfl) (va_cwS 3 hts gX6_rules_X6_within rfl rfl rfl (by decide +kernel) ⟨Nat.le_of_ble_eq_true rfl, Nat.le_of_ble_eq_true rfl⟩) hK hP hS rfl hl.1 rfl (Nat.le_of_ble_eq_true rfl) dX6_rules_4 (fun H locs hP hS => ?_)
  refine lv_if_ne (tgt := 13) hx hb dX6_rules_7 (by decide) (fun c5 => ?_) (fun c5 => ?_)
  · have hf := (if_neg c5).symm.trans hf
    refine lv_aload_n hx hb dX6_rules_13 rfl (lv_at hl 0 rfl) ?_
    refine gfX6_2 hx hb hts (fun _ h => List.mem_cons_of_mem _ (List.mem_append_right _ h)) hown hK hP (hts (Cond.fieldLink RX6 13 "WhoSpeaksModel" "rules" "I") (List.mem_of_getElem? (i := 1) rfl)) dX6_rules_14 ?_
    refine lv_topi (fun y6 ey6 => ?_)
    have hf := bnd_of ey6 hf
    refine lv_istore_n (lv' := [(2, .int y6), (0, .ref (ad 0)), (1, .int p0)]) hx hb dX6_rules_17 rfl hl (by decide) rfl (fun ls hl => ?_)
    refine lv_aload_n hx hb dX6_rules_18 rfl (lv_at hl 1 rfl) ?_
    refine lv_iload_n hx hb dX6_rules_19 rfl (lv_at hl 2 rfl) ?_
    refine pfX6_2 (v := p0) hx hb hts (fun _ h => List.mem_cons_of_mem _ (List.mem_append_right _ h)) hown hK hP hD hS (hts (Cond.fieldLink RX6 13 "WhoSpeaksModel" "rules" "I") (List.mem_of_getElem? (i := 1) rfl)) dX6_rules_20 (fun S7 eS7 H locs hP hS => ?_)
    have hf := bnd_of eS7 hf
    refine lv_iload_n hx hb dX6_rules_23 rfl (lv_at hl 0 rfl) ?_
    obtain ⟨he, hS9⟩ := Prod.mk.inj (Option.some.inj hf)
    subst hS9
    exact rI hx hb hr hP hS he hlocks dX6_rules_24
  · have hf := (if_pos c5).symm.trans hf
    refine lv_bipush (v := (-2)) hx hb dX6_rules_10 (by decide) ?_
    obtain ⟨he, hS9⟩ := Prod.mk.inj (Option.some.inj hf)
    subst hS9
    exact rI hx hb hr hP hS he hlocks dX6_rules_12

def fX6_key (p0 : Int32) (S : MS) : Option (Int32 × MS) := (if (bi (fX6_within p0 0 127)) = 0 then (some ((-2), S)) else (if (mi S 2) = 12 then (some ((-4), S)) else (ck (mi S 2) 12 (bnd (maW S 2 (mi S 2).toNatClampNeg p0) (fun S9 => (bnd (miW S9 2 ((mi S9 2) + 1)) (fun S11 => (some ((mi S11 2), S11)))))))))
set_option maxHeartbeats 4000000 in
set_option maxRecDepth 100000 in
theorem okX6_key (l : Launch) (D : va_G) (cy : Nat → ClassId) (ad : Nat → Nat) (A : Nat → Prop) (hD : ∀ S, va_D A (wM cy ad S)) (p0 : Int32) (S : MS) (r : Int32) (S' : MS) (hf : fX6_key p0 S = some (r, S')) : MI l yX6_key wsX6_key { frames := 1, cells := 0, slots := 0, locals := 22 } D cy A (wM cy ad S) [.ref (ad 0), .int p0] r (wM cy ad S') := by
  refine Met.ofW (cc := cX6_key) (maxL := 2) (ret := (some .int)) (by decide) rfl ?_
  intro p e s m args below meth c s₁ B hml hv
  obtain ⟨ha, hP, hK⟩ := hv
  have hx := B.exec
  have hb := B.bytes
  have hr := B.returns
  have hts := atoms_spec (ws := wsX6_key) B.pre
  have hown : s.vm.findClass RX6 = some m.cls := findClass_of_methodNamed B.named
  have hlocks := B.notSynchronized
  have hS : va_S A s.heap s.heap [] := va_S.rf
  obtain ⟨ls, hl, he0⟩ := ent (m := m) ha (n := 2) (Nat.le_of_ble_eq_true rfl)
  refine W.eq he0 ?_
  have hl : lv_has ls 2 [(0, .ref (ad 0)), (1, .int p0)] := hl
  unfold fX6_key at hf
  suffices hG : ∀ (H : Heap) (locs : List Loc), va_P D vwCl (wM cy ad S) H → va_S A s.heap H locs → W p l e (headSpec wsX6_key { frames := 1, cells := 0, slots := 0, locals := 22 }).room s m args below meth c H locs 0 0 (MQ below (QcI D A r (wM cy ad S')) args s 0 0 A) (F0 m 0 ls []) by exact hG s.heap [] hP va_S.rf
  clear hP hS
  intro H locs hP hS
  refine lv_iload_n hx hb dX6_key_0 rfl (lv_at hl 1 rfl) ?_
  refine lv_iconst (v := 0) hx hb dX6_key_1 (by decide) ?_
  refine lv_bipush (v := 127) hx hb dX6_key_2 (by decide) ?_
  refine kSi (As := [.int p0, .int 0, .int 127]) (rest := []) ⟨hx, hb, hml, hown, hts⟩ (okX6_within l D cy A (wM cy ad S) p0 0 127 _ rfl) (va_cwS 3 hts gX6_key_X6_within rfl rfl rfl (by decide +kernel) ⟨Nat.le_of_ble_eq_true rfl, Nat.le_of_ble_eq_true rfl⟩) hK hP hS rfl hl.1 rfl (Nat.le_of_ble_eq_true rfl) dX6_key_4 (fun H locs hP hS => ?_)
  refine lv_if_ne (tgt := 13) hx hb dX6_key_7 (by decide) (fun c7 => ?_) (fun c7 => ?_)
  · have hf := (if_neg c7).symm.trans hf
    refine lv_aload_n hx hb dX6_key_13 rfl (lv_at hl 0 rfl) ?_
    refine gfX6_4 hx hb hts (fun _ h => List.mem_cons_of_mem _ (List.mem_append_right _ h)) hown hK hP (hts (Cond.fieldLink RX6 96 "WhoSpeaksModel" "taped" "I") (List.mem_of_getElem? (i := 1) rfl)) dX6_key_14 ?_
    refine lv_bipush (v := 12) hx hb dX6_key_17 (by decide) ?_
    refine lv_icmp_ne (tgt := 25) hx hb dX6_key_19 (by decide) (fun c8 => ?_) (fun c8 => ?_)
    · have hf := (if_neg c8).symm.trans hf
      refine lv_aload_n hx hb dX6_key_25 rfl (lv_at hl 0 rfl) ?_
      refine gfX6_3 hx hb hts (fun _ h => List.mem_cons_of_mem _ (List.mem_append_right _ h)) hown hK hP (hts (Cond.fieldLink RX6 17 "WhoSpeaksModel" "tape" "[I") (List.mem_of_getElem? (i := 2) rfl)) dX6_key_26 ?_
      refine lv_aload_n hx hb dX6_key_29 rfl (lv_at hl 0 rfl) ?_
      refine gfX6_4 hx hb hts (fun _ h => List.mem_cons_of_mem _ (List.mem_append_right _ h)) hown hK hP (hts (Cond.fieldLink RX6 96 "WhoSpeaksModel" "taped" "I") (List.mem_of_getElem? (i := 1) rfl)) dX6_key_30 ?_
      refine lv_iload_n hx hb dX6_key_33 rfl (lv_at hl 1 rfl) ?_
      obtain ⟨c10, hf⟩ := ck_some hf
      refine asM2 (v := p0) hx hb hK hP hD hS c10 dX6_key_34 (fun S9 eS9 H locs hP hS => ?_)
      have hf := bnd_of eS9 hf
      refine lv_aload_n hx hb dX6_key_35 rfl (lv_at hl 0 rfl) ?_
      refine lv_dup hx hb dX6_key_36 rfl ?_
      refine gfX6_4 hx hb hts (fun _ h => List.mem_cons_of_mem _ (List.mem_append_right _ h)) hown hK hP (hts (Cond.fieldLink RX6 96 "WhoSpeaksModel" "taped" "I") (List.mem_of_getElem? (i := 1) rfl)) dX6_key_37 ?_
      refine lv_iconst (v := 1) hx hb dX6_key_40 (by decide) ?_
      refine lv_iadd hx hb dX6_key_41 ?_
      refine pfX6_4 (v := ((mi S9 2) + 1)) hx hb hts (fun _ h => List.mem_cons_of_mem _ (List.mem_append_right _ h)) hown hK hP hD hS (hts (Cond.fieldLink RX6 96 "WhoSpeaksModel" "taped" "I") (List.mem_of_getElem? (i := 1) rfl)) dX6_key_42 (fun S11 eS11 H locs hP hS => ?_)
      have hf := bnd_of eS11 hf
      refine lv_aload_n hx hb dX6_key_45 rfl (lv_at hl 0 rfl) ?_
      refine gfX6_4 hx hb hts (fun _ h => List.mem_cons_of_mem _ (List.mem_append_right _ h)) hown hK hP (hts (Cond.fieldLink RX6 96 "WhoSpeaksModel" "taped" "I") (List.mem_of_getElem? (i := 1) rfl)) dX6_key_46 ?_
      obtain ⟨he, hS9⟩ := Prod.mk.inj (Option.some.inj hf)
      subst hS9
      exact rI hx hb hr hP hS he hlocks dX6_key_49
    · have hf := (if_pos c8).symm.trans hf
      refine lv_bipush (v := (-4)) hx hb dX6_key_22 (by decide) ?_
      obtain ⟨he, hS9⟩ := Prod.mk.inj (Option.some.inj hf)
      subst hS9
      exact rI hx hb hr hP hS he hlocks dX6_key_24
  · have hf := (if_pos c7).symm.trans hf
    refine lv_bipush (v := (-2)) hx hb dX6_key_10 (by decide) ?_
    obtain ⟨he, hS9⟩ := Prod.mk.inj (Option.some.inj hf)
    subst hS9
    exact rI hx hb hr hP hS he hlocks dX6_key_12

def fX6_wipe  (S : MS) : Option (Int32 × MS) := (bnd ((mi S 2)) (fun y3 => (bnd (miW S 2 0) (fun S4 => (some (y3, S4))))))
set_option maxHeartbeats 4000000 in
set_option maxRecDepth 100000 in
theorem okX6_wipe (l : Launch) (D : va_G) (cy : Nat → ClassId) (ad : Nat → Nat) (A : Nat → Prop) (hD : ∀ S, va_D A (wM cy ad S))  (S : MS) (r : Int32) (S' : MS) (hf : fX6_wipe  S = some (r, S')) : MI l yX6_wipe wsX6_wipe { frames := 0, cells := 0, slots := 0, locals := 0 } D cy A (wM cy ad S) [.ref (ad 0)] r (wM cy ad S') := by
  refine Met.ofW (cc := cX6_wipe) (maxL := 2) (ret := (some .int)) (by decide) rfl ?_
  intro p e s m args below meth c s₁ B hml hv
  obtain ⟨ha, hP, hK⟩ := hv
  have hx := B.exec
  have hb := B.bytes
  have hr := B.returns
  have hts := atoms_spec (ws := wsX6_wipe) B.pre
  have hown : s.vm.findClass RX6 = some m.cls := findClass_of_methodNamed B.named
  have hlocks := B.notSynchronized
  have hS : va_S A s.heap s.heap [] := va_S.rf
  obtain ⟨ls, hl, he0⟩ := ent (m := m) ha (n := 2) (Nat.le_of_ble_eq_true rfl)
  refine W.eq he0 ?_
  have hl : lv_has ls 2 [(0, .ref (ad 0))] := hl
  unfold fX6_wipe at hf
  suffices hG : ∀ (H : Heap) (locs : List Loc), va_P D vwCl (wM cy ad S) H → va_S A s.heap H locs → W p l e (headSpec wsX6_wipe { frames := 0, cells := 0, slots := 0, locals := 0 }).room s m args below meth c H locs 0 0 (MQ below (QcI D A r (wM cy ad S')) args s 0 0 A) (F0 m 0 ls []) by exact hG s.heap [] hP va_S.rf
  clear hP hS
  intro H locs hP hS
  refine lv_aload_n hx hb dX6_wipe_0 rfl (lv_at hl 0 rfl) ?_
  refine gfX6_4 hx hb hts (fun _ h => List.mem_cons_of_mem _ (List.mem_append_right _ h)) hown hK hP (hts (Cond.fieldLink RX6 96 "WhoSpeaksModel" "taped" "I") (List.mem_of_getElem? (i := 1) rfl)) dX6_wipe_1 ?_
  refine lv_topi (fun y3 ey3 => ?_)
  have hf := bnd_of ey3 hf
  refine lv_istore_n (lv' := [(1, .int y3), (0, .ref (ad 0))]) hx hb dX6_wipe_4 rfl hl (by decide) rfl (fun ls hl => ?_)
  refine lv_aload_n hx hb dX6_wipe_5 rfl (lv_at hl 1 rfl) ?_
  refine lv_iconst (v := 0) hx hb dX6_wipe_6 (by decide) ?_
  refine pfX6_4 (v := 0) hx hb hts (fun _ h => List.mem_cons_of_mem _ (List.mem_append_right _ h)) hown hK hP hD hS (hts (Cond.fieldLink RX6 96 "WhoSpeaksModel" "taped" "I") (List.mem_of_getElem? (i := 1) rfl)) dX6_wipe_7 (fun S4 eS4 H locs hP hS => ?_)
  have hf := bnd_of eS4 hf
  refine lv_iload_n hx hb dX6_wipe_10 rfl (lv_at hl 0 rfl) ?_
  obtain ⟨he, hS9⟩ := Prod.mk.inj (Option.some.inj hf)
  subst hS9
  exact rI hx hb hr hP hS he hlocks dX6_wipe_11

def fX6_sortOfItem (p0 : Int32) : Int32 := (if p0 = 104 then 3 else (if p0 = 111 then 2 else (if p0 = 113 then 0 else (if p0 = 115 then 4 else (if p0 = 118 then 1 else (if p0 = 105 then 5 else (if p0 = 106 then 5 else (if p0 = 107 then 5 else (if p0 = 108 then 5 else (if p0 = 109 then 5 else (if p0 = 110 then 5 else (if p0 = 112 then 5 else (if p0 = 114 then 5 else (if p0 = 116 then 5 else (if p0 = 117 then 5 else 5)))))))))))))))
set_option maxHeartbeats 4000000 in
set_option maxRecDepth 100000 in
theorem okX6_sortOfItem (l : Launch) (D : va_G) (cy : Nat → ClassId) (A : Nat → Prop) (w : va_W) (p0 : Int32) (r : Int32) (hf : fX6_sortOfItem p0 = r) : MI l yX6_sortOfItem wsX6_sortOfItem { frames := 0, cells := 0, slots := 0, locals := 0 } D cy A w [.int p0] r w := by
  refine Met.ofW (cc := cX6_sortOfItem) (maxL := 1) (ret := (some .int)) (by decide) rfl ?_
  intro p e s m args below meth c s₁ B hml hv
  obtain ⟨ha, hP, hK⟩ := hv
  have hx := B.exec
  have hb := B.bytes
  have hr := B.returns
  have hts := atoms_spec (ws := wsX6_sortOfItem) B.pre
  have hown : s.vm.findClass RX6 = some m.cls := findClass_of_methodNamed B.named
  have hlocks := B.notSynchronized
  have hS : va_S A s.heap s.heap [] := va_S.rf
  obtain ⟨ls, hl, he0⟩ := ent (m := m) ha (n := 1) (Nat.le_of_ble_eq_true rfl)
  refine W.eq he0 ?_
  have hl : lv_has ls 1 [(0, .int p0)] := hl
  unfold fX6_sortOfItem at hf
  suffices hG : ∀ (H : Heap) (locs : List Loc), va_P D vwCl w H → va_S A s.heap H locs → W p l e (headSpec wsX6_sortOfItem { frames := 0, cells := 0, slots := 0, locals := 0 }).room s m args below meth c H locs 0 0 (MQ below (QcI D A r w) args s 0 0 A) (F0 m 0 ls []) by exact hG s.heap [] hP va_S.rf
  clear hP hS
  intro H locs hP hS
  refine lv_iload_n hx hb dX6_sortOfItem_0 rfl (lv_at hl 0 rfl) ?_
  by_cases c1 : p0 = 104
  · have hf := (if_pos c1).symm.trans hf
    refine lv_tableIn (off := 81) (tgt := 82) hx hb dX6_sortOfItem_1 (by rw [c1]; decide) (by rw [c1]; decide) (by rw [c1]; rfl) (by decide) ?_
    refine lv_iconst (v := 3) hx hb dX6_sortOfItem_82 (by decide) ?_
    have he := hf
    exact rI hx hb hr hP hS he hlocks dX6_sortOfItem_83
  · have hf := (if_neg c1).symm.trans hf
    by_cases c2 : p0 = 111
    · have hf := (if_pos c2).symm.trans hf
      refine lv_tableIn (off := 79) (tgt := 80) hx hb dX6_sortOfItem_1 (by rw [c2]; decide) (by rw [c2]; decide) (by rw [c2]; rfl) (by decide) ?_
      refine lv_iconst (v := 2) hx hb dX6_sortOfItem_80 (by decide) ?_
      have he := hf
      exact rI hx hb hr hP hS he hlocks dX6_sortOfItem_81
    · have hf := (if_neg c2).symm.trans hf
      by_cases c3 : p0 = 113
      · have hf := (if_pos c3).symm.trans hf
        refine lv_tableIn (off := 75) (tgt := 76) hx hb dX6_sortOfItem_1 (by rw [c3]; decide) (by rw [c3]; decide) (by rw [c3]; rfl) (by decide) ?_
        refine lv_iconst (v := 0) hx hb dX6_sortOfItem_76 (by decide) ?_
        have he := hf
        exact rI hx hb hr hP hS he hlocks dX6_sortOfItem_77
      · have hf := (if_neg c3).symm.trans hf
        by_cases c4 : p0 = 115
        · have hf := (if_pos c4).symm.trans hf
          refine lv_tableIn (off := 83) (tgt := 84) hx hb dX6_sortOfItem_1 (by rw [c4]; decide) (by rw [c4]; decide) (by rw [c4]; rfl) (by decide) ?_
          refine lv_iconst (v := 4) hx hb dX6_sortOfItem_84 (by decide) ?_
          have he := hf
          exact rI hx hb hr hP hS he hlocks dX6_sortOfItem_85
        · have hf := (if_neg c4).symm.trans hf
          by_cases c5 : p0 = 118
          · have hf := (if_pos c5).symm.trans hf
            refine lv_tableIn (off := 77) (tgt := 78) hx hb dX6_sortOfItem_1 (by rw [c5]; decide) (by rw [c5]; decide) (by rw [c5]; rfl) (by decide) ?_
            refine lv_iconst (v := 1) hx hb dX6_sortOfItem_78 (by decide) ?_
            have he := hf
            exact rI hx hb hr hP hS he hlocks dX6_sortOfItem_79
          · have hf := (if_neg c5).symm.trans hf
            by_cases c6 : p0 = 105
            · have hf := (if_pos c6).symm.trans hf
              refine lv_tableIn (off := 85) (tgt := 86) hx hb dX6_sortOfItem_1 (by rw [c6]; decide) (by rw [c6]; decide) (by rw [c6]; rfl) (by decide) ?_
              refine lv_iconst (v := 5) hx hb dX6_sortOfItem_86 (by decide) ?_
              have he := hf
              exact rI hx hb hr hP hS he hlocks dX6_sortOfItem_87
            · have hf := (if_neg c6).symm.trans hf
              by_cases c7 : p0 = 106
              · have hf := (if_pos c7).symm.trans hf
                refine lv_tableIn (off := 85) (tgt := 86) hx hb dX6_sortOfItem_1 (by rw [c7]; decide) (by rw [c7]; decide) (by rw [c7]; rfl) (by decide) ?_
                refine lv_iconst (v := 5) hx hb dX6_sortOfItem_86 (by decide) ?_
                have he := hf
                exact rI hx hb hr hP hS he hlocks dX6_sortOfItem_87
              · have hf := (if_neg c7).symm.trans hf
                by_cases c8 : p0 = 107
                · have hf := (if_pos c8).symm.trans hf
                  refine lv_tableIn (off := 85) (tgt := 86) hx hb dX6_sortOfItem_1 (by rw [c8]; decide) (by rw [c8]; decide) (by rw [c8]; rfl) (by decide) ?_
                  refine lv_iconst (v := 5) hx hb dX6_sortOfItem_86 (by decide) ?_
                  have he := hf
                  exact rI hx hb hr hP hS he hlocks dX6_sortOfItem_87
                · have hf := (if_neg c8).symm.trans hf
                  by_cases c9 : p0 = 108
                  · have hf := (if_pos c9).symm.trans hf
                    refine lv_tableIn (off := 85) (tgt := 86) hx hb dX6_sortOfItem_1 (by rw [c9]; decide) (by rw [c9]; decide) (by rw [c9]; rfl) (by decide) ?_
                    refine lv_iconst (v := 5) hx hb dX6_sortOfItem_86 (by decide) ?_
                    have he := hf
                    exact rI hx hb hr hP hS he hlocks dX6_sortOfItem_87
                  · have hf := (if_neg c9).symm.trans hf
                    by_cases c10 : p0 = 109
                    · have hf := (if_pos c10).symm.trans hf
                      refine lv_tableIn (off := 85) (tgt := 86) hx hb dX6_sortOfItem_1 (by rw [c10]; decide) (by rw [c10]; decide) (by rw [c10]; rfl) (by decide) ?_
                      refine lv_iconst (v := 5) hx hb dX6_sortOfItem_86 (by decide) ?_
                      have he := hf
                      exact rI hx hb hr hP hS he hlocks dX6_sortOfItem_87
                    · have hf := (if_neg c10).symm.trans hf
                      by_cases c11 : p0 = 110
                      · have hf := (if_pos c11).symm.trans hf
                        refine lv_tableIn (off := 85) (tgt := 86) hx hb dX6_sortOfItem_1 (by rw [c11]; decide) (by rw [c11]; decide) (by rw [c11]; rfl) (by decide) ?_
                        refine lv_iconst (v := 5) hx hb dX6_sortOfItem_86 (by decide) ?_
                        have he := hf
                        exact rI hx hb hr hP hS he hlocks dX6_sortOfItem_87
                      · have hf := (if_neg c11).symm.trans hf
                        by_cases c12 : p0 = 112
                        · have hf := (if_pos c12).symm.trans hf
                          refine lv_tableIn (off := 85) (tgt := 86) hx hb dX6_sortOfItem_1 (by rw [c12]; decide) (by rw [c12]; decide) (by rw [c12]; rfl) (by decide) ?_
                          refine lv_iconst (v := 5) hx hb dX6_sortOfItem_86 (by decide) ?_
                          have he := hf
                          exact rI hx hb hr hP hS he hlocks dX6_sortOfItem_87
                        · have hf := (if_neg c12).symm.trans hf
                          by_cases c13 : p0 = 114
                          · have hf := (if_pos c13).symm.trans hf
                            refine lv_tableIn (off := 85) (tgt := 86) hx hb dX6_sortOfItem_1 (by rw [c13]; decide) (by rw [c13]; decide) (by rw [c13]; rfl) (by decide) ?_
                            refine lv_iconst (v := 5) hx hb dX6_sortOfItem_86 (by decide) ?_
                            have he := hf
                            exact rI hx hb hr hP hS he hlocks dX6_sortOfItem_87
                          · have hf := (if_neg c13).symm.trans hf
                            by_cases c14 : p0 = 116
                            · have hf := (if_pos c14).symm.trans hf
                              refine lv_tableIn (off := 85) (tgt := 86) hx hb dX6_sortOfItem_1 (by rw [c14]; decide) (by rw [c14]; decide) (by rw [c14]; rfl) (by decide) ?_
                              refine lv_iconst (v := 5) hx hb dX6_sortOfItem_86 (by decide) ?_
                              have he := hf
                              exact rI hx hb hr hP hS he hlocks dX6_sortOfItem_87
                            · have hf := (if_neg c14).symm.trans hf
                              by_cases c15 : p0 = 117
                              · have hf := (if_pos c15).symm.trans hf
                                refine lv_tableIn (off := 85) (tgt := 86) hx hb dX6_sortOfItem_1 (by rw [c15]; decide) (by rw [c15]; decide) (by rw [c15]; rfl) (by decide) ?_
                                refine lv_iconst (v := 5) hx hb dX6_sortOfItem_86 (by decide) ?_
                                have he := hf
                                exact rI hx hb hr hP hS he hlocks dX6_sortOfItem_87
                              · have hf := (if_neg c15).symm.trans hf
                                refine lv_tableOut (tgt := 86) hx hb dX6_sortOfItem_1 (by have n104 := ne_toInt c1; have z104 : (104 : Int32).toInt = 104 := rfl; have n111 := ne_toInt c2; have z111 : (111 : Int32).toInt = 111 := rfl; have n113 := ne_toInt c3; have z113 : (113 : Int32).toInt = 113 := rfl; have n115 := ne_toInt c4; have z115 : (115 : Int32).toInt = 115 := rfl; have n118 := ne_toInt c5; have z118 : (118 : Int32).toInt = 118 := rfl; have n105 := ne_toInt c6; have z105 : (105 : Int32).toInt = 105 := rfl; have n106 := ne_toInt c7; have z106 : (106 : Int32).toInt = 106 := rfl; have n107 := ne_toInt c8; have z107 : (107 : Int32).toInt = 107 := rfl; have n108 := ne_toInt c9; have z108 : (108 : Int32).toInt = 108 := rfl; have n109 := ne_toInt c10; have z109 : (109 : Int32).toInt = 109 := rfl; have n110 := ne_toInt c11; have z110 : (110 : Int32).toInt = 110 := rfl; have n112 := ne_toInt c12; have z112 : (112 : Int32).toInt = 112 := rfl; have n114 := ne_toInt c13; have z114 : (114 : Int32).toInt = 114 := rfl; have n116 := ne_toInt c14; have z116 : (116 : Int32).toInt = 116 := rfl; have n117 := ne_toInt c15; have z117 : (117 : Int32).toInt = 117 := rfl; omega) (by decide) ?_
                                refine lv_iconst (v := 5) hx hb dX6_sortOfItem_86 (by decide) ?_
                                have he := hf
                                exact rI hx hb hr hP hS he hlocks dX6_sortOfItem_87

def fX6_isNameHere  (S : MS) : Option Bool := (if (mi S 2) ≤ (mi S 4) then (some false) else (ck (mi S 4) 12 (if (bi (fX6_within (ma S 2 (mi S 4).toNatClampNeg) 65 72)) = 0 then (some false) else (ck (mi S 4) 12 (ob1 (fX6_isThere ((ma S 2 (mi S 4).toNatClampNeg) - 65) S) (fun r11 => (if (bi r11) = 0 then (some false) else (some true))))))))
set_option maxHeartbeats 4000000 in
set_option maxRecDepth 100000 in
theorem okX6_isNameHere (l : Launch) (D : va_G) (cy : Nat → ClassId) (ad : Nat → Nat) (A : Nat → Prop) (hD : ∀ S, va_D A (wM cy ad S))  (S : MS) (r : Bool) (hf : fX6_isNameHere  S = some r) : MI l yX6_isNameHere wsX6_isNameHere { frames := 2, cells := 0, slots := 0, locals := 43 } D cy A (wM cy ad S) [.ref (ad 0)] (bi r) (wM cy ad S) := by
  refine Met.ofW (cc := cX6_isNameHere) (maxL := 1) (ret := (some .boolean)) (by decide) rfl ?_
  intro p e s m args below meth c s₁ B hml hv
  obtain ⟨ha, hP, hK⟩ := hv
  have hx := B.exec
  have hb := B.bytes
  have hr := B.returns
  have hts := atoms_spec (ws := wsX6_isNameHere) B.pre
  have hown : s.vm.findClass RX6 = some m.cls := findClass_of_methodNamed B.named
  have hlocks := B.notSynchronized
  have hS : va_S A s.heap s.heap [] := va_S.rf
  obtain ⟨ls, hl, he0⟩ := ent (m := m) ha (n := 1) (Nat.le_of_ble_eq_true rfl)
  refine W.eq he0 ?_
  have hl : lv_has ls 1 [(0, .ref (ad 0))] := hl
  unfold fX6_isNameHere at hf
  suffices hG : ∀ (H : Heap) (locs : List Loc), va_P D vwCl (wM cy ad S) H → va_S A s.heap H locs → W p l e (headSpec wsX6_isNameHere { frames := 2, cells := 0, slots := 0, locals := 43 }).room s m args below meth c H locs 0 0 (MQ below (QcI D A (bi r) (wM cy ad S)) args s 0 0 A) (F0 m 0 ls []) by exact hG s.heap [] hP va_S.rf
  clear hP hS
  intro H locs hP hS
  refine lv_aload_n hx hb dX6_isNameHere_0 rfl (lv_at hl 0 rfl) ?_
  refine gfX6_12 hx hb hts (fun _ h => List.mem_cons_of_mem _ (List.mem_append_right _ h)) hown hK hP (hts (Cond.fieldLink RX6 103 "WhoSpeaksModel" "place" "I") (List.mem_of_getElem? (i := 1) rfl)) dX6_isNameHere_1 ?_
  refine lv_aload_n hx hb dX6_isNameHere_4 rfl (lv_at hl 0 rfl) ?_
  refine gfX6_4 hx hb hts (fun _ h => List.mem_cons_of_mem _ (List.mem_append_right _ h)) hown hK hP (hts (Cond.fieldLink RX6 96 "WhoSpeaksModel" "taped" "I") (List.mem_of_getElem? (i := 2) rfl)) dX6_isNameHere_5 ?_
  refine lv_icmp_ge (tgt := 53) hx hb dX6_isNameHere_8 (by decide) (fun c6 => ?_) (fun c6 => ?_)
  · have hf := (if_pos c6).symm.trans hf
    refine lv_iconst (v := 0) hx hb dX6_isNameHere_53 (by decide) ?_
    have he := Option.some.inj hf
    exact rZ hx hb hr (bi_nar false) hP hS (congrArg bi he) hlocks dX6_isNameHere_54
  · have hf := (if_neg c6).symm.trans hf
    refine lv_aload_n hx hb dX6_isNameHere_11 rfl (lv_at hl 0 rfl) ?_
    refine gfX6_3 hx hb hts (fun _ h => List.mem_cons_of_mem _ (List.mem_append_right _ h)) hown hK hP (hts (Cond.fieldLink RX6 17 "WhoSpeaksModel" "tape" "[I") (List.mem_of_getElem? (i := 3) rfl)) dX6_isNameHere_12 ?_
    refine lv_aload_n hx hb dX6_isNameHere_15 rfl (lv_at hl 0 rfl) ?_
    refine gfX6_12 hx hb hts (fun _ h => List.mem_cons_of_mem _ (List.mem_append_right _ h)) hown hK hP (hts (Cond.fieldLink RX6 103 "WhoSpeaksModel" "place" "I") (List.mem_of_getElem? (i := 1) rfl)) dX6_isNameHere_16 ?_
    obtain ⟨c7, hf⟩ := ck_some hf
    refine alM2 hx hb hK hP c7 dX6_isNameHere_19 ?_
    refine lv_bipush (v := 65) hx hb dX6_isNameHere_20 (by decide) ?_
    refine lv_bipush (v := 72) hx hb dX6_isNameHere_22 (by decide) ?_
    refine kSi (As := [.int (ma S 2 (mi S 4).toNatClampNeg), .int 65, .int 72]) (rest := []) ⟨hx, hb, hml, hown, hts⟩ (okX6_within l D cy A (wM cy ad S) (ma S 2 (mi S 4).toNatClampNeg) 65 72 _ rfl) (va_cwS 3 hts gX6_isNameHere_X6_within rfl rfl rfl (by decide +kernel) ⟨Nat.le_of_ble_eq_true rfl, Nat.le_of_ble_eq_true rfl⟩) hK hP hS rfl hl.1 rfl (Nat.le_of_ble_eq_true rfl) dX6_isNameHere_24 (fun H locs hP hS => ?_)
    refine lv_if_eq (tgt := 53) hx hb dX6_isNameHere_27 (by decide) (fun c9 => ?_) (fun c9 => ?_)
    · have hf := (if_pos c9).symm.trans hf
      refine lv_iconst (v := 0) hx hb dX6_isNameHere_53 (by decide) ?_
      have he := Option.some.inj hf
      exact rZ hx hb hr (bi_nar false) hP hS (congrArg bi he) hlocks dX6_isNameHere_54
    · have hf := (if_neg c9).symm.trans hf
      refine lv_aload_n hx hb dX6_isNameHere_30 rfl (lv_at hl 0 rfl) ?_
      refine lv_aload_n hx hb dX6_isNameHere_31 rfl (lv_at hl 0 rfl) ?_
      refine gfX6_3 hx hb hts (fun _ h => List.mem_cons_of_mem _ (List.mem_append_right _ h)) hown hK hP (hts (Cond.fieldLink RX6 17 "WhoSpeaksModel" "tape" "[I") (List.mem_of_getElem? (i := 3) rfl)) dX6_isNameHere_32 ?_
      refine lv_aload_n hx hb dX6_isNameHere_35 rfl (lv_at hl 0 rfl) ?_
      refine gfX6_12 hx hb hts (fun _ h => List.mem_cons_of_mem _ (List.mem_append_right _ h)) hown hK hP (hts (Cond.fieldLink RX6 103 "WhoSpeaksModel" "place" "I") (List.mem_of_getElem? (i := 1) rfl)) dX6_isNameHere_36 ?_
      obtain ⟨c10, hf⟩ := ck_some hf
      refine alM2 hx hb hK hP c10 dX6_isNameHere_39 ?_
      refine lv_bipush (v := 65) hx hb dX6_isNameHere_40 (by decide) ?_
      refine lv_isub hx hb dX6_isNameHere_42 ?_
      obtain ⟨r11, h12, hf⟩ := ob1_some hf
      refine kVi (As := [.int ((ma S 2 (mi S 4).toNatClampNeg) - 65)]) (rest := []) ⟨hx, hb, hml, hown, hts⟩ (okX6_isThere l D cy ad A hD ((ma S 2 (mi S 4).toNatClampNeg) - 65) S r11 h12) (cwV 1 hts gX6_isNameHere_X6_isThere rfl rfl rfl (by decide +kernel) ⟨Nat.le_of_ble_eq_true rfl, Nat.le_of_ble_eq_true rfl⟩) hK hP hS (va_recv hK.1 hP (ci := 6) (q := (RX6, TX6, 21)) rfl (atM0 cy ad S)) rfl hl.1 rfl (Nat.le_of_ble_eq_true rfl) dX6_isNameHere_43 (fun H locs hP hS => ?_)
      refine lv_if_eq (tgt := 53) hx hb dX6_isNameHere_46 (by decide) (fun c13 => ?_) (fun c13 => ?_)
      · have hf := (if_pos c13).symm.trans hf
        refine lv_iconst (v := 0) hx hb dX6_isNameHere_53 (by decide) ?_
        have he := Option.some.inj hf
        exact rZ hx hb hr (bi_nar false) hP hS (congrArg bi he) hlocks dX6_isNameHere_54
      · have hf := (if_neg c13).symm.trans hf
        refine lv_iconst (v := 1) hx hb dX6_isNameHere_49 (by decide) ?_
        refine lv_goto (tgt := 54) hx hb dX6_isNameHere_50 (by decide) ?_
        have he := Option.some.inj hf
        exact rZ hx hb hr (bi_nar true) hP hS (congrArg bi he) hlocks dX6_isNameHere_54
