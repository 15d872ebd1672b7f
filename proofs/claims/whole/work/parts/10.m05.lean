def bX6_waysWith_67  (x1 : Int32) (x2 : Int32) (x3 : Int64) (S : MS) : Option Int64 := (ck ((8 * x1) + x2) 128 (some ((ml S 13 ((8 * x1) + x2).toNatClampNeg) * x3)))
def bX6_waysWith_17  (k17 : Int32 × Int32 × Int64 × Int32 × MS → Option Int64) (x1 : Int32) (x2 : Int32) (x3 : Int64) (x5 : Int32) (S : MS) : Option Int64 := (if 8 ≤ x5 then (bX6_waysWith_67  (x1) (x2) (x3) S) else (ob1 (fX6_linkAt (x1 + 1) S) (fun r25 => (if (bi (fX6_may r25 x2 x5)) = 0 then (bnd ((x3 + 0)) (fun y29 => (k17 (x1, x2, y29, (x5 + 1), S)))) else (ck ((8 * (x1 + 1)) + x5) 128 (bnd ((x3 + (ml S 14 ((8 * (x1 + 1)) + x5).toNatClampNeg))) (fun y31 => (k17 (x1, x2, y31, (x5 + 1), S)))))))))
def fX6_waysWith (p0 : Int32) (p1 : Int32) (S : MS) : Option Int64 := (if (mi S 3) ≤ (p0 + 1) then (bX6_waysWith_67  (p0) (p1) (1) S) else (lp (fun k q => bX6_waysWith_17  k q.1 q.2.1 q.2.2.1 q.2.2.2.1 q.2.2.2.2) FU (p0, p1, 0, 0, S)))
set_option maxHeartbeats 4000000 in
set_option maxRecDepth 100000 in
theorem okX6_waysWith (l : Launch) (D : va_G) (cy : Nat → ClassId) (ad : Nat → Nat) (A : Nat → Prop) (hD : ∀ S, va_D A (wM cy ad S)) (p0 : Int32) (p1 : Int32) (S : MS) (r : Int64) (hf : fX6_waysWith p0 p1 S = some r) : ML l yX6_waysWith wsX6_waysWith { frames := 3, cells := 0, slots := 0, locals := 66 } D cy A (wM cy ad S) [.ref (ad 0), .int p0, .int p1] r (wM cy ad S) := by
  refine Met.ofW (cc := cX6_waysWith) (maxL := 6) (ret := (some .long)) (by decide) rfl ?_
  intro p e s m args below meth c s₁ B hml hv
  obtain ⟨ha, hP, hK⟩ := hv
  have hx := B.exec
  have hb := B.bytes
  have hr := B.returns
  have hts := atoms_spec (ws := wsX6_waysWith) B.pre
  have hown : s.vm.findClass RX6 = some m.cls := findClass_of_methodNamed B.named
  have hlocks := B.notSynchronized
  have hS : va_S A s.heap s.heap [] := va_S.rf
  obtain ⟨ls, hl, he0⟩ := ent (m := m) ha (n := 6) (Nat.le_of_ble_eq_true rfl)
  refine W.eq he0 ?_
  have hl : lv_has ls 6 [(0, .ref (ad 0)), (1, .int p0), (2, .int p1)] := hl
  have K67 : ∀ (x1 : Int32) (x2 : Int32) (x3 : Int64) (S : MS) (H : Heap) (locs : List Loc) (ls : Array Slot), va_P D vwCl (wM cy ad S) H → va_S A s.heap H locs → lv_has ls 6 [(0, .ref (ad 0)), (1, .int x1), (2, .int x2), (3, .long x3)] → bX6_waysWith_67  x1 x2 x3 S = some r → W p l e (headSpec wsX6_waysWith { frames := 3, cells := 0, slots := 0, locals := 66 }).room s m args below meth c H locs 0 0 (MQ below (QcL D A r (wM cy ad S)) args s 0 0 A) (F0 m 67 ls []) := by
    intro  x1 x2 x3 S H locs ls hP hS hl hf
    unfold bX6_waysWith_67 at hf
    refine lv_aload_n hx hb dX6_waysWith_67 rfl (lv_at hl 0 rfl) ?_
    refine gfX6_17 hx hb hts (fun _ h => List.mem_cons_of_mem _ (List.mem_append_right _ h)) hown hK hP (hts (Cond.fieldLink RX6 51 "WhoSpeaksModel" "upTo" "[J") (List.mem_of_getElem? (i := 3) rfl)) dX6_waysWith_68 ?_
    refine lv_bipush (v := 8) hx hb dX6_waysWith_71 (by decide) ?_
    refine lv_iload_n hx hb dX6_waysWith_73 rfl (lv_at hl 1 rfl) ?_
    refine lv_imul hx hb dX6_waysWith_74 ?_
    refine lv_iload_n hx hb dX6_waysWith_75 rfl (lv_at hl 2 rfl) ?_
    refine lv_iadd hx hb dX6_waysWith_76 ?_
    obtain ⟨c23, hf⟩ := ck_some hf
    refine alM13 hx hb hK hP c23 dX6_waysWith_77 ?_
    refine lv_lload_n hx hb dX6_waysWith_78 rfl (lv_at hl 3 rfl) ?_
    refine lv_lmul hx hb dX6_waysWith_79 ?_
    have he := Option.some.inj hf
    exact rL hx hb hr hP hS he hlocks dX6_waysWith_80
  have K17 : ∀ (n : Nat), ∀ (x1 : Int32) (x2 : Int32) (x3 : Int64) (x5 : Int32) (S : MS) (H : Heap) (locs : List Loc) (ls : Array Slot), va_P D vwCl (wM cy ad S) H → va_S A s.heap H locs → lv_has ls 6 [(0, .ref (ad 0)), (1, .int x1), (2, .int x2), (3, .long x3), (5, .int x5)] → lp (fun k q => bX6_waysWith_17  k q.1 q.2.1 q.2.2.1 q.2.2.2.1 q.2.2.2.2) n (x1, x2, x3, x5, S) = some r → W p l e (headSpec wsX6_waysWith { frames := 3, cells := 0, slots := 0, locals := 66 }).room s m args below meth c H locs 0 0 (MQ below (QcL D A r (wM cy ad S)) args s 0 0 A) (F0 m 17 ls []) := by
    intro  n
    induction n with
    | zero =>
      intro x1 x2 x3 x5 S H locs ls hP hS hl hf
      cases hf
    | succ n ih17 =>
      intro x1 x2 x3 x5 S H locs ls hP hS hl hf
      have hf : bX6_waysWith_17  (lp (fun k q => bX6_waysWith_17  k q.1 q.2.1 q.2.2.1 q.2.2.2.1 q.2.2.2.2) n) x1 x2 x3 x5 S = some r := hf
      generalize lp (fun k q => bX6_waysWith_17  k q.1 q.2.1 q.2.2.1 q.2.2.2.1 q.2.2.2.2) n = k17 at hf ih17
      unfold bX6_waysWith_17 at hf
      refine lv_iload hx hb dX6_waysWith_17 (lv_at hl 4 rfl) ?_
      refine lv_bipush (v := 8) hx hb dX6_waysWith_19 (by decide) ?_
      refine lv_icmp_ge (tgt := 67) hx hb dX6_waysWith_21 (by decide) (fun c24 => ?_) (fun c24 => ?_)
      · have hf := (if_pos c24).symm.trans hf
        exact K67  (x1) (x2) (x3) S H locs ls hP hS (lv_sub hl [0, 1, 2, 3] rfl) hf
      · have hf := (if_neg c24).symm.trans hf
        refine lv_lload_n hx hb dX6_waysWith_24 rfl (lv_at hl 3 rfl) ?_
        refine lv_aload_n hx hb dX6_waysWith_25 rfl (lv_at hl 0 rfl) ?_
        refine lv_iload_n hx hb dX6_waysWith_26 rfl (lv_at hl 1 rfl) ?_
        refine lv_iconst (v := 1) hx hb dX6_waysWith_27 (by decide) ?_
        refine lv_iadd hx hb dX6_waysWith_28 ?_
        obtain ⟨r25, h26, hf⟩ := ob1_some hf
        refine kVi (As := [.int (x1 + 1)]) (rest := [.long x3]) ⟨hx, hb, hml, hown, hts⟩ (okX6_linkAt l D cy ad A hD (x1 + 1) S r25 h26) (cwV 1 hts gX6_waysWith_X6_linkAt rfl rfl rfl (by decide +kernel) ⟨Nat.le_of_ble_eq_true rfl, Nat.le_of_ble_eq_true rfl⟩) hK hP hS (va_recv hK.1 hP (ci := 6) (q := (RX6, TX6, 21)) rfl (atM0 cy ad S)) rfl hl.1 rfl (Nat.le_of_ble_eq_true rfl) dX6_waysWith_29 (fun H locs hP hS => ?_)
        refine lv_iload_n hx hb dX6_waysWith_32 rfl (lv_at hl 2 rfl) ?_
        refine lv_iload hx hb dX6_waysWith_33 (lv_at hl 4 rfl) ?_
        refine kSi (As := [.int r25, .int x2, .int x5]) (rest := [.long x3]) ⟨hx, hb, hml, hown, hts⟩ (okX6_may l D cy A (wM cy ad S) r25 x2 x5 _ rfl) (va_cwS 3 hts gX6_waysWith_X6_may rfl rfl rfl (by decide +kernel) ⟨Nat.le_of_ble_eq_true rfl, Nat.le_of_ble_eq_true rfl⟩) hK hP hS rfl hl.1 rfl (Nat.le_of_ble_eq_true rfl) dX6_waysWith_35 (fun H locs hP hS => ?_)
        refine lv_if_eq (tgt := 58) hx hb dX6_waysWith_38 (by decide) (fun c28 => ?_) (fun c28 => ?_)
        · have hf := (if_pos c28).symm.trans hf
          refine lv_lconst (v := 0) hx hb dX6_waysWith_58 (by decide) ?_
          refine lv_ladd hx hb dX6_waysWith_59 ?_
          refine lv_topl (fun y29 ey29 => ?_)
          have hf := bnd_of ey29 hf
          refine lv_lstore_n (lv' := [(3, .long y29), (0, .ref (ad 0)), (1, .int x1), (2, .int x2), (5, .int x5)]) hx hb dX6_waysWith_60 rfl hl (by decide) rfl (fun ls hl => ?_)
          refine lv_iinc (v := (x5 + 1)) (lv' := [(5, .int (x5 + 1)), (3, .long y29), (0, .ref (ad 0)), (1, .int x1), (2, .int x2)]) hx hb dX6_waysWith_61 hl (k := 4) rfl rfl (by decide) rfl (fun ls hl => ?_)
          refine lv_goto (tgt := 17) hx hb dX6_waysWith_64 (by decide) ?_
          exact ih17 (x1) (x2) (y29) ((x5 + 1)) S H locs ls hP hS (lv_sub hl [2, 3, 4, 1, 0] rfl) hf
        · have hf := (if_neg c28).symm.trans hf
          refine lv_aload_n hx hb dX6_waysWith_41 rfl (lv_at hl 0 rfl) ?_
          refine gfX6_18 hx hb hts (fun _ h => List.mem_cons_of_mem _ (List.mem_append_right _ h)) hown hK hP (hts (Cond.fieldLink RX6 55 "WhoSpeaksModel" "from" "[J") (List.mem_of_getElem? (i := 2) rfl)) dX6_waysWith_42 ?_
          refine lv_bipush (v := 8) hx hb dX6_waysWith_45 (by decide) ?_
          refine lv_iload_n hx hb dX6_waysWith_47 rfl (lv_at hl 1 rfl) ?_
          refine lv_iconst (v := 1) hx hb dX6_waysWith_48 (by decide) ?_
          refine lv_iadd hx hb dX6_waysWith_49 ?_
          refine lv_imul hx hb dX6_waysWith_50 ?_
          refine lv_iload hx hb dX6_waysWith_51 (lv_at hl 4 rfl) ?_
          refine lv_iadd hx hb dX6_waysWith_53 ?_
          obtain ⟨c30, hf⟩ := ck_some hf
          refine alM14 hx hb hK hP c30 dX6_waysWith_54 ?_
          refine lv_goto (tgt := 59) hx hb dX6_waysWith_55 (by decide) ?_
          refine lv_ladd hx hb dX6_waysWith_59 ?_
          refine lv_topl (fun y31 ey31 => ?_)
          have hf := bnd_of ey31 hf
          refine lv_lstore_n (lv' := [(3, .long y31), (0, .ref (ad 0)), (1, .int x1), (2, .int x2), (5, .int x5)]) hx hb dX6_waysWith_60 rfl hl (by decide) rfl (fun ls hl => ?_)
          refine lv_iinc (v := (x5 + 1)) (lv' := [(5, .int (x5 + 1)), (3, .long y31), (0, .ref (ad 0)), (1, .int x1), (2, .int x2)]) hx hb dX6_waysWith_61 hl (k := 4) rfl rfl (by decide) rfl (fun ls hl => ?_)
          refine lv_goto (tgt := 17) hx hb dX6_waysWith_64 (by decide) ?_
          exact ih17 (x1) (x2) (y31) ((x5 + 1)) S H locs ls hP hS (lv_sub hl [2, 3, 4, 1, 0] rfl) hf
  unfold fX6_waysWith at hf
  suffices hG : ∀ (H : Heap) (locs : List Loc), va_P D vwCl (wM cy ad S) H → va_S A s.heap H locs → W p l e (headSpec wsX6_waysWith { frames := 3, cells := 0, slots := 0, locals := 66 }).room s m args below meth c H locs 0 0 (MQ below (QcL D A r (wM cy ad S)) args s 0 0 A) (F0 m 0 ls []) by exact hG s.heap [] hP va_S.rf
  clear hP hS
  intro H locs hP hS
  refine lv_lconst (v := 1) hx hb dX6_waysWith_0 (by decide) ?_
  refine lv_lstore_n (lv' := [(3, .long 1), (0, .ref (ad 0)), (1, .int p0), (2, .int p1)]) hx hb dX6_waysWith_1 rfl hl (by decide) rfl (fun ls hl => ?_)
  refine lv_iload_n hx hb dX6_waysWith_2 rfl (lv_at hl 2 rfl) ?_
  refine lv_iconst (v := 1) hx hb dX6_waysWith_3 (by decide) ?_
  refine lv_iadd hx hb dX6_waysWith_4 ?_
  refine lv_aload_n hx hb dX6_waysWith_5 rfl (lv_at hl 1 rfl) ?_
  refine gfX6_5 hx hb hts (fun _ h => List.mem_cons_of_mem _ (List.mem_append_right _ h)) hown hK hP (hts (Cond.fieldLink RX6 68 "WhoSpeaksModel" "paragraphs" "I") (List.mem_of_getElem? (i := 1) rfl)) dX6_waysWith_6 ?_
  refine lv_icmp_ge (tgt := 67) hx hb dX6_waysWith_9 (by decide) (fun c32 => ?_) (fun c32 => ?_)
  · have hf := (if_pos c32).symm.trans hf
    exact K67  (p0) (p1) (1) S H locs ls hP hS (lv_sub hl [1, 2, 3, 0] rfl) hf
  · have hf := (if_neg c32).symm.trans hf
    refine lv_lconst (v := 0) hx hb dX6_waysWith_12 (by decide) ?_
    refine lv_lstore_n (lv' := [(3, .long 0), (0, .ref (ad 0)), (1, .int p0), (2, .int p1)]) hx hb dX6_waysWith_13 rfl hl (by decide) rfl (fun ls hl => ?_)
    refine lv_iconst (v := 0) hx hb dX6_waysWith_14 (by decide) ?_
    refine lv_istore (lv' := [(5, .int 0), (3, .long 0), (0, .ref (ad 0)), (1, .int p0), (2, .int p1)]) hx hb dX6_waysWith_15 hl (by decide) rfl (fun ls hl => ?_)
    exact K17  FU (p0) (p1) (0) (0) S H locs ls hP hS (lv_sub hl [2, 3, 4, 1, 0] rfl) hf

def bX6_findSure_63 (k7 : Int32 × MS → Option MS) (k24 : Int32 × Int32 × MS → Option MS) (x1 : Int32) (x2 : Int32) (s1 : Int32) (s2 : Int32) (s3 : Int32) (S : MS) : Option MS := (ck s1 16 (bnd (maW S 15 s1.toNatClampNeg (s2 ||| s3)) (fun S47 => (k24 (x1, (x2 + 1), S47)))))
def bX6_findSure_24 (k7 : Int32 × MS → Option MS) (k24 : Int32 × Int32 × MS → Option MS) (x1 : Int32) (x2 : Int32) (S : MS) : Option MS := (if 8 ≤ x2 then (k7 ((x1 + 1), S)) else (ck x1 16 (ob1 (fX6_speaks x1 S) (fun r51 => (if (bi r51) = 0 then (bX6_findSure_63 k7 k24 (x1) (x2) (x1) ((ma S 15 x1.toNatClampNeg)) (0) S) else (ob1 (fX6_waysWith x1 x2 S) (fun r54 => (if (lg_cmp r54 0) ≤ 0 then (bX6_findSure_63 k7 k24 (x1) (x2) (x1) ((ma S 15 x1.toNatClampNeg)) (0) S) else (bX6_findSure_63 k7 k24 (x1) (x2) (x1) ((ma S 15 x1.toNatClampNeg)) (((1 : Int32) <<< (x2 &&& 31))) S)))))))))
def bX6_findSure_7  (k7 : Int32 × MS → Option MS) (x1 : Int32) (S : MS) : Option MS := (if (mi S 3) ≤ x1 then (some S) else (ck x1 16 (bnd (maW S 15 x1.toNatClampNeg 0) (fun S58 => (lp (fun k q => bX6_findSure_24 k7 k q.1 q.2.1 q.2.2) FU (x1, 0, S58))))))
def fX6_findSure  (S : MS) : Option MS := (ob2 (fX6_findWays  S) (fun r60 S62 => (lp (fun k q => bX6_findSure_7  k q.1 q.2) FU (0, S62))))
set_option maxHeartbeats 4000000 in
set_option maxRecDepth 100000 in
theorem okX6_findSure (l : Launch) (D : va_G) (cy : Nat → ClassId) (ad : Nat → Nat) (A : Nat → Prop) (hD : ∀ S, va_D A (wM cy ad S))  (S : MS) (S' : MS) (hf : fX6_findSure  S = some S') : MV l yX6_findSure wsX6_findSure { frames := 8, cells := 0, slots := 0, locals := 177 } D cy A (wM cy ad S) [.ref (ad 0)] (wM cy ad S') := by
  refine Met.ofW (cc := cX6_findSure) (maxL := 3) (ret := none) (by decide) rfl ?_
  intro p e s m args below meth c s₁ B hml hv
  obtain ⟨ha, hP, hK⟩ := hv
  have hx := B.exec
  have hb := B.bytes
  have hr := B.returns
  have hts := atoms_spec (ws := wsX6_findSure) B.pre
  have hown : s.vm.findClass RX6 = some m.cls := findClass_of_methodNamed B.named
  have hlocks := B.notSynchronized
  have hS : va_S A s.heap s.heap [] := va_S.rf
  obtain ⟨ls, hl, he0⟩ := ent (m := m) ha (n := 3) (Nat.le_of_ble_eq_true rfl)
  refine W.eq he0 ?_
  have hl : lv_has ls 3 [(0, .ref (ad 0))] := hl
  have K63 : ∀ (k7 : Int32 × MS → Option MS), (∀ (x1 : Int32) (S : MS) (H : Heap) (locs : List Loc) (ls : Array Slot), va_P D vwCl (wM cy ad S) H → va_S A s.heap H locs → lv_has ls 3 [(0, .ref (ad 0)), (1, .int x1)] → k7 (x1, S) = some S' → W p l e (headSpec wsX6_findSure { frames := 8, cells := 0, slots := 0, locals := 177 }).room s m args below meth c H locs 0 0 (MQ below (QcV D A (wM cy ad S')) args s 0 0 A) (F0 m 7 ls [])) → ∀ (k24 : Int32 × Int32 × MS → Option MS), (∀ (x1 : Int32) (x2 : Int32) (S : MS) (H : Heap) (locs : List Loc) (ls : Array Slot), va_P D vwCl (wM cy ad S) H → va_S A s.heap H locs → lv_has ls 3 [(0, .ref (ad 0)), (1, .int x1), (2, .int x2)] → k24 (x1, x2, S) = some S' → W p l e (headSpec wsX6_findSure { frames := 8, cells := 0, slots := 0, locals := 177 }).room s m args below meth c H locs 0 0 (MQ below (QcV D A (wM cy ad S')) args s 0 0 A) (F0 m 24 ls [])) → ∀ (x1 : Int32) (x2 : Int32) (s1 : Int32) (s2 : Int32) (s3 : Int32) (S : MS) (H : Heap) (locs : List Loc) (ls : Array Slot), va_P D vwCl (wM cy ad S) H → va_S A s.heap H locs → lv_has ls 3 [(0, .ref (ad 0)), (1, .int x1), (2, .int x2)] → bX6_findSure_63 k7 k24 x1 x2 s1 s2 s3 S = some S' → W p l e (headSpec wsX6_findSure { frames := 8, cells := 0, slots := 0, locals := 177 }).room s m args below meth c H locs 0 0 (MQ below (QcV D A (wM cy ad S')) args s 0 0 A) (F0 m 63 ls [.int s3, .int s2, .int s1, .ref (ad 15)]) := by
    intro k7 ih7 k24 ih24 x1 x2 s1 s2 s3 S H locs ls hP hS hl hf
    unfold bX6_findSure_63 at hf
    refine lv_ior hx hb dX6_findSure_63 ?_
    obtain ⟨c48, hf⟩ := ck_some hf
    refine asM15 (v := (s2 ||| s3)) hx hb hK hP hD hS c48 dX6_findSure_64 (fun S47 eS47 H locs hP hS => ?_)
    have hf := bnd_of eS47 hf
    refine lv_iinc (v := (x2 + 1)) (lv' := [(2, .int (x2 + 1)), (0, .ref (ad 0)), (1, .int x1)]) hx hb dX6_findSure_65 hl (k := 2) rfl rfl (by decide) rfl (fun ls hl => ?_)
    refine lv_goto (tgt := 24) hx hb dX6_findSure_68 (by decide) ?_
    exact ih24 (x1) ((x2 + 1)) S47 H locs ls hP hS (lv_sub hl [1, 2, 0] rfl) hf
  have K24 : ∀ (k7 : Int32 × MS → Option MS), (∀ (x1 : Int32) (S : MS) (H : Heap) (locs : List Loc) (ls : Array Slot), va_P D vwCl (wM cy ad S) H → va_S A s.heap H locs → lv_has ls 3 [(0, .ref (ad 0)), (1, .int x1)] → k7 (x1, S) = some S' → W p l e (headSpec wsX6_findSure { frames := 8, cells := 0, slots := 0, locals := 177 }).room s m args below meth c H locs 0 0 (MQ below (QcV D A (wM cy ad S')) args s 0 0 A) (F0 m 7 ls [])) → ∀ (n : Nat), ∀ (x1 : Int32) (x2 : Int32) (S : MS) (H : Heap) (locs : List Loc) (ls : Array Slot), va_P D vwCl (wM cy ad S) H → va_S A s.heap H locs → lv_has ls 3 [(0, .ref (ad 0)), (1, .int x1), (2, .int x2)] → lp (fun k q => bX6_findSure_24 k7 k q.1 q.2.1 q.2.2) n (x1, x2, S) = some S' → W p l e (headSpec wsX6_findSure { frames := 8, cells := 0, slots := 0, locals := 177 }).room s m args below meth c H locs 0 0 (MQ below (QcV D A (wM cy ad S')) args s 0 0 A) (F0 m 24 ls []) := by
    intro k7 ih7 n
    induction n with
    | zero =>
      intro x1 x2 S H locs ls hP hS hl hf
      cases hf
    | succ n ih24 =>
      intro x1 x2 S H locs ls hP hS hl hf
      have hf : bX6_findSure_24 k7 (lp (fun k q => bX6_findSure_24 k7 k q.1 q.2.1 q.2.2) n) x1 x2 S = some S' := hf
      generalize lp (fun k q => bX6_findSure_24 k7 k q.1 q.2.1 q.2.2) n = k24 at hf ih24
      unfold bX6_findSure_24 at hf
      refine lv_iload_n hx hb dX6_findSure_24 rfl (lv_at hl 2 rfl) ?_
      refine lv_bipush (v := 8) hx hb dX6_findSure_25 (by decide) ?_
      refine lv_icmp_ge (tgt := 71) hx hb dX6_findSure_27 (by decide) (fun c49 => ?_) (fun c49 => ?_)
      · have hf := (if_pos c49).symm.trans hf
        refine lv_iinc (v := (x1 + 1)) (lv' := [(1, .int (x1 + 1)), (0, .ref (ad 0)), (2, .int x2)]) hx hb dX6_findSure_71 hl (k := 1) rfl rfl (by decide) rfl (fun ls hl => ?_)
        refine lv_goto (tgt := 7) hx hb dX6_findSure_74 (by decide) ?_
        exact ih7 ((x1 + 1)) S H locs ls hP hS (lv_sub hl [1, 0] rfl) hf
      · have hf := (if_neg c49).symm.trans hf
        refine lv_aload_n hx hb dX6_findSure_30 rfl (lv_at hl 0 rfl) ?_
        refine gfX6_19 hx hb hts (fun _ h => List.mem_cons_of_mem _ (List.mem_append_right _ h)) hown hK hP (hts (Cond.fieldLink RX6 58 "WhoSpeaksModel" "sure" "[I") (List.mem_of_getElem? (i := 2) rfl)) dX6_findSure_31 ?_
        refine lv_iload_n hx hb dX6_findSure_34 rfl (lv_at hl 1 rfl) ?_
        refine lv_dup2_11 hx hb dX6_findSure_35 rfl rfl ?_
        obtain ⟨c50, hf⟩ := ck_some hf
        refine alM15 hx hb hK hP c50 dX6_findSure_36 ?_
        refine lv_aload_n hx hb dX6_findSure_37 rfl (lv_at hl 0 rfl) ?_
        refine lv_iload_n hx hb dX6_findSure_38 rfl (lv_at hl 1 rfl) ?_
        obtain ⟨r51, h52, hf⟩ := ob1_some hf
        refine kVi (As := [.int x1]) (rest := [.int (ma S 15 x1.toNatClampNeg), .int x1, .ref (ad 15)]) ⟨hx, hb, hml, hown, hts⟩ (okX6_speaks l D cy ad A hD x1 S r51 h52) (cwV 1 hts gX6_findSure_X6_speaks rfl rfl rfl (by decide +kernel) ⟨Nat.le_of_ble_eq_true rfl, Nat.le_of_ble_eq_true rfl⟩) hK hP hS (va_recv hK.1 hP (ci := 6) (q := (RX6, TX6, 21)) rfl (atM0 cy ad S)) rfl hl.1 rfl (Nat.le_of_ble_eq_true rfl) dX6_findSure_39 (fun H locs hP hS => ?_)
        refine lv_if_eq (tgt := 62) hx hb dX6_findSure_42 (by decide) (fun c53 => ?_) (fun c53 => ?_)
        · have hf := (if_pos c53).symm.trans hf
          refine lv_iconst (v := 0) hx hb dX6_findSure_62 (by decide) ?_
          exact K63 k7 ih7 k24 ih24 (x1) (x2) (x1) ((ma S 15 x1.toNatClampNeg)) (0) S H locs ls hP hS (lv_sub hl [0, 1, 2] rfl) hf
        · have hf := (if_neg c53).symm.trans hf
          refine lv_aload_n hx hb dX6_findSure_45 rfl (lv_at hl 0 rfl) ?_
          refine lv_iload_n hx hb dX6_findSure_46 rfl (lv_at hl 1 rfl) ?_
          refine lv_iload_n hx hb dX6_findSure_47 rfl (lv_at hl 2 rfl) ?_
          obtain ⟨r54, h55, hf⟩ := ob1_some hf
          refine kVl (As := [.int x1, .int x2]) (rest := [.int (ma S 15 x1.toNatClampNeg), .int x1, .ref (ad 15)]) ⟨hx, hb, hml, hown, hts⟩ (okX6_waysWith l D cy ad A hD x1 x2 S r54 h55) (cwV 2 hts gX6_findSure_X6_waysWith rfl rfl rfl (by decide +kernel) ⟨Nat.le_of_ble_eq_true rfl, Nat.le_of_ble_eq_true rfl⟩) hK hP hS (va_recv hK.1 hP (ci := 6) (q := (RX6, TX6, 21)) rfl (atM0 cy ad S)) rfl hl.1 rfl (Nat.le_of_ble_eq_true rfl) dX6_findSure_48 (fun H locs hP hS => ?_)
          refine lv_lconst (v := 0) hx hb dX6_findSure_51 (by decide) ?_
          refine W.lcmp hx hb dX6_findSure_52 ?_
          refine lv_if_le (tgt := 62) hx hb dX6_findSure_53 (by decide) (fun c56 => ?_) (fun c56 => ?_)
          · have hf := (if_pos c56).symm.trans hf
            refine lv_iconst (v := 0) hx hb dX6_findSure_62 (by decide) ?_
            exact K63 k7 ih7 k24 ih24 (x1) (x2) (x1) ((ma S 15 x1.toNatClampNeg)) (0) S H locs ls hP hS (lv_sub hl [0, 1, 2] rfl) hf
          · have hf := (if_neg c56).symm.trans hf
            refine lv_iconst (v := 1) hx hb dX6_findSure_56 (by decide) ?_
            refine lv_iload_n hx hb dX6_findSure_57 rfl (lv_at hl 2 rfl) ?_
            refine lv_ishl hx hb dX6_findSure_58 ?_
            refine lv_goto (tgt := 63) hx hb dX6_findSure_59 (by decide) ?_
            exact K63 k7 ih7 k24 ih24 (x1) (x2) (x1) ((ma S 15 x1.toNatClampNeg)) (((1 : Int32) <<< (x2 &&& 31))) S H locs ls hP hS (lv_sub hl [0, 1, 2] rfl) hf
  have K7 : ∀ (n : Nat), ∀ (x1 : Int32) (S : MS) (H : Heap) (locs : List Loc) (ls : Array Slot), va_P D vwCl (wM cy ad S) H → va_S A s.heap H locs → lv_has ls 3 [(0, .ref (ad 0)), (1, .int x1)] → lp (fun k q => bX6_findSure_7  k q.1 q.2) n (x1, S) = some S' → W p l e (headSpec wsX6_findSure { frames := 8, cells := 0, slots := 0, locals := 177 }).room s m args below meth c H locs 0 0 (MQ below (QcV D A (wM cy ad S')) args s 0 0 A) (F0 m 7 ls []) := by
    intro  n
    induction n with
    | zero =>
      intro x1 S H locs ls hP hS hl hf
      cases hf
    | succ n ih7 =>
      intro x1 S H locs ls hP hS hl hf
      have hf : bX6_findSure_7  (lp (fun k q => bX6_findSure_7  k q.1 q.2) n) x1 S = some S' := hf
      generalize lp (fun k q => bX6_findSure_7  k q.1 q.2) n = k7 at hf ih7
      unfold bX6_findSure_7 at hf
      refine lv_iload_n hx hb dX6_findSure_7 rfl (lv_at hl 1 rfl) ?_
      refine lv_aload_n hx hb dX6_findSure_8 rfl (lv_at hl 0 rfl) ?_
      refine gfX6_5 hx hb hts (fun _ h => List.mem_cons_of_mem _ (List.mem_append_right _ h)) hown hK hP (hts (Cond.fieldLink RX6 68 "WhoSpeaksModel" "paragraphs" "I") (List.mem_of_getElem? (i := 1) rfl)) dX6_findSure_9 ?_
      refine lv_icmp_ge (tgt := 77) hx hb dX6_findSure_12 (by decide) (fun c57 => ?_) (fun c57 => ?_)
      · have hf := (if_pos c57).symm.trans hf
        cases hf
        exact rV hx hb hr hP hS hlocks dX6_findSure_77
      · have hf := (if_neg c57).symm.trans hf
        refine lv_aload_n hx hb dX6_findSure_15 rfl (lv_at hl 0 rfl) ?_
        refine gfX6_19 hx hb hts (fun _ h => List.mem_cons_of_mem _ (List.mem_append_right _ h)) hown hK hP (hts (Cond.fieldLink RX6 58 "WhoSpeaksModel" "sure" "[I") (List.mem_of_getElem? (i := 2) rfl)) dX6_findSure_16 ?_
        refine lv_iload_n hx hb dX6_findSure_19 rfl (lv_at hl 1 rfl) ?_
        refine lv_iconst (v := 0) hx hb dX6_findSure_20 (by decide) ?_
        obtain ⟨c59, hf⟩ := ck_some hf
        refine asM15 (v := 0) hx hb hK hP hD hS c59 dX6_findSure_21 (fun S58 eS58 H locs hP hS => ?_)
        have hf := bnd_of eS58 hf
        refine lv_iconst (v := 0) hx hb dX6_findSure_22 (by decide) ?_
        refine lv_istore_n (lv' := [(2, .int 0), (0, .ref (ad 0)), (1, .int x1)]) hx hb dX6_findSure_23 rfl hl (by decide) rfl (fun ls hl => ?_)
        exact K24 k7 ih7 FU (x1) (0) S58 H locs ls hP hS (lv_sub hl [1, 2, 0] rfl) hf
  unfold fX6_findSure at hf
  suffices hG : ∀ (H : Heap) (locs : List Loc), va_P D vwCl (wM cy ad S) H → va_S A s.heap H locs → W p l e (headSpec wsX6_findSure { frames := 8, cells := 0, slots := 0, locals := 177 }).room s m args below meth c H locs 0 0 (MQ below (QcV D A (wM cy ad S')) args s 0 0 A) (F0 m 0 ls []) by exact hG s.heap [] hP va_S.rf
  clear hP hS
  intro H locs hP hS
  refine lv_aload_n hx hb dX6_findSure_0 rfl (lv_at hl 0 rfl) ?_
  obtain ⟨r60, S62, h61, hf⟩ := ob2_some hf
  refine kVl (As := []) (rest := []) ⟨hx, hb, hml, hown, hts⟩ (okX6_findWays l D cy ad A hD  S r60 S62 h61) (cwV 0 hts gX6_findSure_X6_findWays rfl rfl rfl (by decide +kernel) ⟨Nat.le_of_ble_eq_true rfl, Nat.le_of_ble_eq_true rfl⟩) hK hP hS (va_recv hK.1 hP (ci := 6) (q := (RX6, TX6, 21)) rfl (atM0 cy ad S)) rfl hl.1 rfl (Nat.le_of_ble_eq_true rfl) dX6_findSure_1 (fun H locs hP hS => ?_)
  refine lv_pop2_2 hx hb dX6_findSure_4 rfl ?_
  refine lv_iconst (v := 0) hx hb dX6_findSure_5 (by decide) ?_
  refine lv_istore_n (lv' := [(1, .int 0), (0, .ref (ad 0))]) hx hb dX6_findSure_6 rfl hl (by decide) rfl (fun ls hl => ?_)
  exact K7  FU (0) S62 H locs ls hP hS (lv_sub hl [1, 0] rfl) hf

def fX6_set (p0 : Int32) (p1 : Int32) (S : MS) : Option (Int32 × MS) := (if (bi (fX6_isParagraph p0 S)) = 0 then (some ((-1), S)) else (if (bi (fX6_within p1 0 2)) = 0 then (some ((-2), S)) else (ob1 (fX6_speaks p0 S) (fun r13 => (if (bi r13) = 0 then (some ((-9), S)) else (ob1 (fX6_findNarrowed  S) (fun S17 => (ob1 (fX6_findSure  S17) (fun S19 => (if p1 = 0 then (ck p0 16 (some ((ma S19 9 p0.toNatClampNeg), S19))) else (if p1 = 1 then (ck p0 16 (some ((ma S19 10 p0.toNatClampNeg), S19))) else (ck p0 16 (some ((ma S19 15 p0.toNatClampNeg), S19))))))))))))))
set_option maxHeartbeats 4000000 in
set_option maxRecDepth 100000 in
theorem okX6_set (l : Launch) (D : va_G) (cy : Nat → ClassId) (ad : Nat → Nat) (A : Nat → Prop) (hD : ∀ S, va_D A (wM cy ad S)) (p0 : Int32) (p1 : Int32) (S : MS) (r : Int32) (S' : MS) (hf : fX6_set p0 p1 S = some (r, S')) : MI l yX6_set wsX6_set { frames := 9, cells := 0, slots := 0, locals := 199 } D cy A (wM cy ad S) [.ref (ad 0), .int p0, .int p1] r (wM cy ad S') := by
  refine Met.ofW (cc := cX6_set) (maxL := 3) (ret := (some .int)) (by decide) rfl ?_
  intro p e s m args below meth c s₁ B hml hv
  obtain ⟨ha, hP, hK⟩ := hv
  have hx := B.exec
  have hb := B.bytes
  have hr := B.returns
  have hts := atoms_spec (ws := wsX6_set) B.pre
  have hown : s.vm.findClass RX6 = some m.cls := findClass_of_methodNamed B.named
  have hlocks := B.notSynchronized
  have hS : va_S A s.heap s.heap [] := va_S.rf
  obtain ⟨ls, hl, he0⟩ := ent (m := m) ha (n := 3) (Nat.le_of_ble_eq_true rfl)
  refine W.eq he0 ?_
  have hl : lv_has ls 3 [(0, .ref (ad 0)), (1, .int p0), (2, .int p1)] := hl
  unfold fX6_set at hf
  suffices hG : ∀ (H : Heap) (locs : List Loc), va_P D vwCl (wM cy ad S) H → va_S A s.heap H locs → W p l e (headSpec wsX6_set { frames := 9, cells := 0, slots := 0, locals := 199 }).room s m args below meth c H locs 0 0 (MQ below (QcI D A r (wM cy ad S')) args s 0 0 A) (F0 m 0 ls []) by exact hG s.heap [] hP va_S.rf
  clear hP hS
  intro H locs hP hS
  refine lv_aload_n hx hb dX6_set_0 rfl (lv_at hl 0 rfl) ?_
  refine lv_iload_n hx hb dX6_set_1 rfl (lv_at hl 1 rfl) ?_
  refine kVi (As := [.int p0]) (rest := []) ⟨hx, hb, hml, hown, hts⟩ (okX6_isParagraph l D cy ad A hD p0 S _ rfl) (cwV 1 hts gX6_set_X6_isParagraph rfl rfl rfl (by decide +kernel) ⟨Nat.le_of_ble_eq_true rfl, Nat.le_of_ble_eq_true rfl⟩) hK hP hS (va_recv hK.1 hP (ci := 6) (q := (RX6, TX6, 21)) rfl (atM0 cy ad S)) rfl hl.1 rfl (Nat.le_of_ble_eq_true rfl) dX6_set_2 (fun H locs hP hS => ?_)
  refine lv_if_ne (tgt := 10) hx hb dX6_set_5 (by decide) (fun c10 => ?_) (fun c10 => ?_)
  · have hf := (if_neg c10).symm.trans hf
    refine lv_iload_n hx hb dX6_set_10 rfl (lv_at hl 2 rfl) ?_
    refine lv_iconst (v := 0) hx hb dX6_set_11 (by decide) ?_
    refine lv_iconst (v := 2) hx hb dX6_set_12 (by decide) ?_
    refine kSi (As := [.int p1, .int 0, .int 2]) (rest := []) ⟨hx, hb, hml, hown, hts⟩ (okX6_within l D cy A (wM cy ad S) p1 0 2 _ rfl) (va_cwS 3 hts gX6_set_X6_within rfl rfl rfl (by decide +kernel) ⟨Nat.le_of_ble_eq_true rfl, Nat.le_of_ble_eq_true rfl⟩) hK hP hS rfl hl.1 rfl (Nat.le_of_ble_eq_true rfl) dX6_set_13 (fun H locs hP hS => ?_)
    refine lv_if_ne (tgt := 22) hx hb dX6_set_16 (by decide) (fun c12 => ?_) (fun c12 => ?_)
    · have hf := (if_neg c12).symm.trans hf
      refine lv_aload_n hx hb dX6_set_22 rfl (lv_at hl 0 rfl) ?_
      refine lv_iload_n hx hb dX6_set_23 rfl (lv_at hl 1 rfl) ?_
      obtain ⟨r13, h14, hf⟩ := ob1_some hf
      refine kVi (As := [.int p0]) (rest := []) ⟨hx, hb, hml, hown, hts⟩ (okX6_speaks l D cy ad A hD p0 S r13 h14) (cwV 1 hts gX6_set_X6_speaks rfl rfl rfl (by decide +kernel) ⟨Nat.le_of_ble_eq_true rfl, Nat.le_of_ble_eq_true rfl⟩) hK hP hS (va_recv hK.1 hP (ci := 6) (q := (RX6, TX6, 21)) rfl (atM0 cy ad S)) rfl hl.1 rfl (Nat.le_of_ble_eq_true rfl) dX6_set_24 (fun H locs hP hS => ?_)
      refine lv_if_ne (tgt := 33) hx hb dX6_set_27 (by decide) (fun c15 => ?_) (fun c15 => ?_)
      · have hf := (if_neg c15).symm.trans hf
        refine lv_aload_n hx hb dX6_set_33 rfl (lv_at hl 0 rfl) ?_
        obtain ⟨S17, h16, hf⟩ := ob1_some hf
        refine kVv (As := []) (rest := []) ⟨hx, hb, hml, hown, hts⟩ (okX6_findNarrowed l D cy ad A hD  S S17 h16) (cwV 0 hts gX6_set_X6_findNarrowed rfl rfl rfl (by decide +kernel) ⟨Nat.le_of_ble_eq_true rfl, Nat.le_of_ble_eq_true rfl⟩) hK hP hS (va_recv hK.1 hP (ci := 6) (q := (RX6, TX6, 21)) rfl (atM0 cy ad S)) rfl hl.1 rfl (Nat.le_of_ble_eq_true rfl) dX6_set_34 (fun H locs hP hS => ?_)
        refine lv_aload_n hx hb dX6_set_37 rfl (lv_at hl 0 rfl) ?_
        obtain ⟨S19, h18, hf⟩ := ob1_some hf
        refine kVv (As := []) (rest := []) ⟨hx, hb, hml, hown, hts⟩ (okX6_findSure l D cy ad A hD  S17 S19 h18) (cwV 0 hts gX6_set_X6_findSure rfl rfl rfl (by decide +kernel) ⟨Nat.le_of_ble_eq_true rfl, Nat.le_of_ble_eq_true rfl⟩) hK hP hS (va_recv hK.1 hP (ci := 6) (q := (RX6, TX6, 21)) rfl (atM0 cy ad S17)) rfl hl.1 rfl (Nat.le_of_ble_eq_true rfl) dX6_set_38 (fun H locs hP hS => ?_)
        refine lv_iload_n hx hb dX6_set_41 rfl (lv_at hl 2 rfl) ?_
        refine lv_if_ne (tgt := 54) hx hb dX6_set_42 (by decide) (fun c20 => ?_) (fun c20 => ?_)
        · have hf := (if_neg c20).symm.trans hf
          refine lv_iload_n hx hb dX6_set_54 rfl (lv_at hl 2 rfl) ?_
          refine lv_iconst (v := 1) hx hb dX6_set_55 (by decide) ?_
          refine lv_icmp_ne (tgt := 68) hx hb dX6_set_56 (by decide) (fun c21 => ?_) (fun c21 => ?_)
          · have hf := (if_neg c21).symm.trans hf
            refine lv_aload_n hx hb dX6_set_68 rfl (lv_at hl 0 rfl) ?_
            refine gfX6_19 hx hb hts (fun _ h => List.mem_cons_of_mem _ (List.mem_append_right _ h)) hown hK hP (hts (Cond.fieldLink RX6 58 "WhoSpeaksModel" "sure" "[I") (List.mem_of_getElem? (i := 3) rfl)) dX6_set_69 ?_
            refine lv_iload_n hx hb dX6_set_72 rfl (lv_at hl 1 rfl) ?_
            obtain ⟨c22, hf⟩ := ck_some hf
            refine alM15 hx hb hK hP c22 dX6_set_73 ?_
            obtain ⟨he, hS9⟩ := Prod.mk.inj (Option.some.inj hf)
            subst hS9
            exact rI hx hb hr hP hS he hlocks dX6_set_74
          · have hf := (if_pos c21).symm.trans hf
            refine lv_aload_n hx hb dX6_set_59 rfl (lv_at hl 0 rfl) ?_
            refine gfX6_14 hx hb hts (fun _ h => List.mem_cons_of_mem _ (List.mem_append_right _ h)) hown hK hP (hts (Cond.fieldLink RX6 42 "WhoSpeaksModel" "narrowed" "[I") (List.mem_of_getElem? (i := 2) rfl)) dX6_set_60 ?_
            refine lv_iload_n hx hb dX6_set_63 rfl (lv_at hl 1 rfl) ?_
            obtain ⟨c23, hf⟩ := ck_some hf
            refine alM10 hx hb hK hP c23 dX6_set_64 ?_
            refine lv_goto (tgt := 74) hx hb dX6_set_65 (by decide) ?_
            obtain ⟨he, hS9⟩ := Prod.mk.inj (Option.some.inj hf)
            subst hS9
            exact rI hx hb hr hP hS he hlocks dX6_set_74
        · have hf := (if_pos c20).symm.trans hf
          refine lv_aload_n hx hb dX6_set_45 rfl (lv_at hl 0 rfl) ?_
          refine gfX6_13 hx hb hts (fun _ h => List.mem_cons_of_mem _ (List.mem_append_right _ h)) hown hK hP (hts (Cond.fieldLink RX6 39 "WhoSpeaksModel" "own" "[I") (List.mem_of_getElem? (i := 1) rfl)) dX6_set_46 ?_
          refine lv_iload_n hx hb dX6_set_49 rfl (lv_at hl 1 rfl) ?_
          obtain ⟨c24, hf⟩ := ck_some hf
          refine alM9 hx hb hK hP c24 dX6_set_50 ?_
          refine lv_goto (tgt := 74) hx hb dX6_set_51 (by decide) ?_
          obtain ⟨he, hS9⟩ := Prod.mk.inj (Option.some.inj hf)
          subst hS9
          exact rI hx hb hr hP hS he hlocks dX6_set_74
      · have hf := (if_pos c15).symm.trans hf
        refine lv_bipush (v := (-9)) hx hb dX6_set_30 (by decide) ?_
        obtain ⟨he, hS9⟩ := Prod.mk.inj (Option.some.inj hf)
        subst hS9
        exact rI hx hb hr hP hS he hlocks dX6_set_32
    · have hf := (if_pos c12).symm.trans hf
      refine lv_bipush (v := (-2)) hx hb dX6_set_19 (by decide) ?_
      obtain ⟨he, hS9⟩ := Prod.mk.inj (Option.some.inj hf)
      subst hS9
      exact rI hx hb hr hP hS he hlocks dX6_set_21
  · have hf := (if_pos c10).symm.trans hf
    refine lv_iconst (v := (-1)) hx hb dX6_set_8 (by decide) ?_
    obtain ⟨he, hS9⟩ := Prod.mk.inj (Option.some.inj hf)
    subst hS9
    exact rI hx hb hr hP hS he hlocks dX6_set_9

def bX6_hint_89  (k89 : Int32 × Int32 × MS → Option (Int32 × MS)) (x3 : Int32) (x4 : Int32) (S : MS) : Option (Int32 × MS) := (if (mi S 3) ≤ x4 then (some (x3, S)) else (ck x4 16 (ck x4 16 (if (ma S 10 x4.toNatClampNeg) = (ma S 12 x4.toNatClampNeg) then (bnd ((x3 + 0)) (fun y70 => (k89 (y70, (x4 + 1), S)))) else (bnd ((x3 + 1)) (fun y71 => (k89 (y71, (x4 + 1), S))))))))
def bX6_hint_47  (k47 : Int32 × Int32 × Int32 × MS → Option (Int32 × MS)) (x1 : Int32) (x2 : Int32) (x3 : Int32) (S : MS) : Option (Int32 × MS) := (if (mi S 3) ≤ x3 then (ck x1 16 (bnd (maW S 8 x1.toNatClampNeg x2) (fun S73 => (ob1 (fX6_findNarrowed  S73) (fun S76 => (lp (fun k q => bX6_hint_89  k q.1 q.2.1 q.2.2) FU (0, 0, S76))))))) else (ck x3 16 (ck x3 16 (bnd (maW S 12 x3.toNatClampNeg (ma S 10 x3.toNatClampNeg)) (fun S78 => (k47 (x1, x2, (x3 + 1), S78)))))))
def bX6_hint_30  (x1 : Int32) (x2 : Int32) (S : MS) : Option (Int32 × MS) := (ob1 (fX6_speaks x1 S) (fun r80 => (if (bi r80) = 0 then (some ((-3), S)) else (ob1 (fX6_findNarrowed  S) (fun S84 => (lp (fun k q => bX6_hint_47  k q.1 q.2.1 q.2.2.1 q.2.2.2) FU (x1, x2, 0, S84)))))))
def fX6_hint (p0 : Int32) (p1 : Int32) (S : MS) : Option (Int32 × MS) := (if (bi (fX6_isParagraph p0 S)) = 0 then (some ((-1), S)) else (if p1 = (-9) then (bX6_hint_30  (p0) (p1) S) else (if (bi (fX6_within p1 1 255)) = 0 then (some ((-2), S)) else (bX6_hint_30  (p0) (p1) S))))
set_option maxHeartbeats 4000000 in
set_option maxRecDepth 100000 in
theorem okX6_hint (l : Launch) (D : va_G) (cy : Nat → ClassId) (ad : Nat → Nat) (A : Nat → Prop) (hD : ∀ S, va_D A (wM cy ad S)) (p0 : Int32) (p1 : Int32) (S : MS) (r : Int32) (S' : MS) (hf : fX6_hint p0 p1 S = some (r, S')) : MI l yX6_hint wsX6_hint { frames := 8, cells := 0, slots := 0, locals := 178 } D cy A (wM cy ad S) [.ref (ad 0), .int p0, .int p1] r (wM cy ad S') := by
  refine Met.ofW (cc := cX6_hint) (maxL := 5) (ret := (some .int)) (by decide) rfl ?_
  intro p e s m args below meth c s₁ B hml hv
  obtain ⟨ha, hP, hK⟩ := hv
  have hx := B.exec
  have hb := B.bytes
  have hr := B.returns
  have hts := atoms_spec (ws := wsX6_hint) B.pre
  have hown : s.vm.findClass RX6 = some m.cls := findClass_of_methodNamed B.named
  have hlocks := B.notSynchronized
  have hS : va_S A s.heap s.heap [] := va_S.rf
  obtain ⟨ls, hl, he0⟩ := ent (m := m) ha (n := 5) (Nat.le_of_ble_eq_true rfl)
  refine W.eq he0 ?_
  have hl : lv_has ls 5 [(0, .ref (ad 0)), (1, .int p0), (2, .int p1)] := hl
  have K89 : ∀ (n : Nat), ∀ (x3 : Int32) (x4 : Int32) (S : MS) (H : Heap) (locs : List Loc) (ls : Array Slot), va_P D vwCl (wM cy ad S) H → va_S A s.heap H locs → lv_has ls 5 [(0, .ref (ad 0)), (3, .int x3), (4, .int x4)] → lp (fun k q => bX6_hint_89  k q.1 q.2.1 q.2.2) n (x3, x4, S) = some (r, S') → W p l e (headSpec wsX6_hint { frames := 8, cells := 0, slots := 0, locals := 178 }).room s m args below meth c H locs 0 0 (MQ below (QcI D A r (wM cy ad S')) args s 0 0 A) (F0 m 89 ls []) := by
    intro  n
    induction n with
    | zero =>
      intro x3 x4 S H locs ls hP hS hl hf
      cases hf
    | succ n ih89 =>
      intro x3 x4 S H locs ls hP hS hl hf
      have hf : bX6_hint_89  (lp (fun k q => bX6_hint_89  k q.1 q.2.1 q.2.2) n) x3 x4 S = some (r, S') := hf
      generalize lp (fun k q => bX6_hint_89  k q.1 q.2.1 q.2.2) n = k89 at hf ih89
      unfold bX6_hint_89 at hf
      refine lv_iload hx hb dX6_hint_89 (lv_at hl 2 rfl) ?_
      refine lv_aload_n hx hb dX6_hint_91 rfl (lv_at hl 0 rfl) ?_
      refine gfX6_5 hx hb hts (fun _ h => List.mem_cons_of_mem _ (List.mem_append_right _ h)) hown hK hP (hts (Cond.fieldLink RX6 68 "WhoSpeaksModel" "paragraphs" "I") (List.mem_of_getElem? (i := 1) rfl)) dX6_hint_92 ?_
      refine lv_icmp_ge (tgt := 129) hx hb dX6_hint_95 (by decide) (fun c66 => ?_) (fun c66 => ?_)
      · have hf := (if_pos c66).symm.trans hf
        refine lv_iload_n hx hb dX6_hint_129 rfl (lv_at hl 1 rfl) ?_
        obtain ⟨he, hS9⟩ := Prod.mk.inj (Option.some.inj hf)
        subst hS9
        exact rI hx hb hr hP hS he hlocks dX6_hint_130
      · have hf := (if_neg c66).symm.trans hf
        refine lv_iload_n hx hb dX6_hint_98 rfl (lv_at hl 1 rfl) ?_
        refine lv_aload_n hx hb dX6_hint_99 rfl (lv_at hl 0 rfl) ?_
        refine gfX6_14 hx hb hts (fun _ h => List.mem_cons_of_mem _ (List.mem_append_right _ h)) hown hK hP (hts (Cond.fieldLink RX6 42 "WhoSpeaksModel" "narrowed" "[I") (List.mem_of_getElem? (i := 3) rfl)) dX6_hint_100 ?_
        refine lv_iload hx hb dX6_hint_103 (lv_at hl 2 rfl) ?_
        obtain ⟨c67, hf⟩ := ck_some hf
        refine alM10 hx hb hK hP c67 dX6_hint_105 ?_
        refine lv_aload_n hx hb dX6_hint_106 rfl (lv_at hl 0 rfl) ?_
        refine gfX6_16 hx hb hts (fun _ h => List.mem_cons_of_mem _ (List.mem_append_right _ h)) hown hK hP (hts (Cond.fieldLink RX6 48 "WhoSpeaksModel" "ahead" "[I") (List.mem_of_getElem? (i := 2) rfl)) dX6_hint_107 ?_
        refine lv_iload hx hb dX6_hint_110 (lv_at hl 2 rfl) ?_
        obtain ⟨c68, hf⟩ := ck_some hf
        refine alM12 hx hb hK hP c68 dX6_hint_112 ?_
        refine lv_icmp_eq (tgt := 120) hx hb dX6_hint_113 (by decide) (fun c69 => ?_) (fun c69 => ?_)
        · have hf := (if_pos c69).symm.trans hf
          refine lv_iconst (v := 0) hx hb dX6_hint_120 (by decide) ?_
          refine lv_iadd hx hb dX6_hint_121 ?_
          refine lv_topi (fun y70 ey70 => ?_)
          have hf := bnd_of ey70 hf
          refine lv_istore_n (lv' := [(3, .int y70), (0, .ref (ad 0)), (4, .int x4)]) hx hb dX6_hint_122 rfl hl (by decide) rfl (fun ls hl => ?_)
          refine lv_iinc (v := (x4 + 1)) (lv' := [(4, .int (x4 + 1)), (3, .int y70), (0, .ref (ad 0))]) hx hb dX6_hint_123 hl (k := 2) rfl rfl (by decide) rfl (fun ls hl => ?_)
          refine lv_goto (tgt := 89) hx hb dX6_hint_126 (by decide) ?_
          exact ih89 (y70) ((x4 + 1)) S H locs ls hP hS (lv_sub hl [2, 1, 0] rfl) hf
        · have hf := (if_neg c69).symm.trans hf
          refine lv_iconst (v := 1) hx hb dX6_hint_116 (by decide) ?_
          refine lv_goto (tgt := 121) hx hb dX6_hint_117 (by decide) ?_
          refine lv_iadd hx hb dX6_hint_121 ?_
          refine lv_topi (fun y71 ey71 => ?_)
          have hf := bnd_of ey71 hf
          refine lv_istore_n (lv' := [(3, .int y71), (0, .ref (ad 0)), (4, .int x4)]) hx hb dX6_hint_122 rfl hl (by decide) rfl (fun ls hl => ?_)
          refine lv_iinc (v := (x4 + 1)) (lv' := [(4, .int (x4 + 1)), (3, .int y71), (0, .ref (ad 0))]) hx hb dX6_hint_123 hl (k := 2) rfl rfl (by decide) rfl (fun ls hl => ?_)
          refine lv_goto (tgt := 89) hx hb dX6_hint_126 (by decide) ?_
          exact ih89 (y71) ((x4 + 1)) S H locs ls hP hS (lv_sub hl [2, 1, 0] rfl) hf
  have K47 : ∀ (n : Nat), ∀ (x1 : Int32) (x2 : Int32) (x3 : Int32) (S : MS) (H : Heap) (locs : List Loc) (ls : Array Slot), va_P D vwCl (wM cy ad S) H → va_S A s.heap H locs → lv_has ls 5 [(0, .ref (ad 0)), (1, .int x1), (2, .int x2), (3, .int x3)] → lp (fun k q => bX6_hint_47  k q.1 q.2.1 q.2.2.1 q.2.2.2) n (x1, x2, x3, S) = some (r, S') → W p l e (headSpec wsX6_hint { frames := 8, cells := 0, slots := 0, locals := 178 }).room s m args below meth c H locs 0 0 (MQ below (QcI D A r (wM cy ad S')) args s 0 0 A) (F0 m 47 ls []) := by
    intro  n
    induction n with
    | zero =>
      intro x1 x2 x3 S H locs ls hP hS hl hf
      cases hf
    | succ n ih47 =>
      intro x1 x2 x3 S H locs ls hP hS hl hf
      have hf : bX6_hint_47  (lp (fun k q => bX6_hint_47  k q.1 q.2.1 q.2.2.1 q.2.2.2) n) x1 x2 x3 S = some (r, S') := hf
      generalize lp (fun k q => bX6_hint_47  k q.1 q.2.1 q.2.2.1 q.2.2.2) n = k47 at hf ih47
      unfold bX6_hint_47 at hf
      refine lv_iload_n hx hb dX6_hint_47 rfl (lv_at hl 3 rfl) ?_
      refine lv_aload_n hx hb dX6_hint_48 rfl (lv_at hl 0 rfl) ?_
      refine gfX6_5 hx hb hts (fun _ h => List.mem_cons_of_mem _ (List.mem_append_right _ h)) hown hK hP (hts (Cond.fieldLink RX6 68 "WhoSpeaksModel" "paragraphs" "I") (List.mem_of_getElem? (i := 1) rfl)) dX6_hint_49 ?_
      refine lv_icmp_ge (tgt := 73) hx hb dX6_hint_52 (by decide) (fun c72 => ?_) (fun c72 => ?_)
      · have hf := (if_pos c72).symm.trans hf
        refine lv_aload_n hx hb dX6_hint_73 rfl (lv_at hl 0 rfl) ?_
        refine gfX6_11 hx hb hts (fun _ h => List.mem_cons_of_mem _ (List.mem_append_right _ h)) hown hK hP (hts (Cond.fieldLink RX6 36 "WhoSpeaksModel" "hintOf" "[I") (List.mem_of_getElem? (i := 4) rfl)) dX6_hint_74 ?_
        refine lv_iload_n hx hb dX6_hint_77 rfl (lv_at hl 1 rfl) ?_
        refine lv_iload_n hx hb dX6_hint_78 rfl (lv_at hl 2 rfl) ?_
        obtain ⟨c74, hf⟩ := ck_some hf
        refine asM8 (v := x2) hx hb hK hP hD hS c74 dX6_hint_79 (fun S73 eS73 H locs hP hS => ?_)
        have hf := bnd_of eS73 hf
        refine lv_aload_n hx hb dX6_hint_80 rfl (lv_at hl 0 rfl) ?_
        obtain ⟨S76, h75, hf⟩ := ob1_some hf
        refine kVv (As := []) (rest := []) ⟨hx, hb, hml, hown, hts⟩ (okX6_findNarrowed l D cy ad A hD  S73 S76 h75) (cwV 0 hts gX6_hint_X6_findNarrowed rfl rfl rfl (by decide +kernel) ⟨Nat.le_of_ble_eq_true rfl, Nat.le_of_ble_eq_true rfl⟩) hK hP hS (va_recv hK.1 hP (ci := 6) (q := (RX6, TX6, 21)) rfl (atM0 cy ad S73)) rfl hl.1 rfl (Nat.le_of_ble_eq_true rfl) dX6_hint_81 (fun H locs hP hS => ?_)
        refine lv_iconst (v := 0) hx hb dX6_hint_84 (by decide) ?_
        refine lv_istore_n (lv' := [(3, .int 0), (0, .ref (ad 0)), (1, .int x1), (2, .int x2)]) hx hb dX6_hint_85 rfl hl (by decide) rfl (fun ls hl => ?_)
        refine lv_iconst (v := 0) hx hb dX6_hint_86 (by decide) ?_
        refine lv_istore (lv' := [(4, .int 0), (3, .int 0), (0, .ref (ad 0)), (1, .int x1), (2, .int x2)]) hx hb dX6_hint_87 hl (by decide) rfl (fun ls hl => ?_)
        exact K89  FU (0) (0) S76 H locs ls hP hS (lv_sub hl [2, 1, 0] rfl) hf
      · have hf := (if_neg c72).symm.trans hf
        refine lv_aload_n hx hb dX6_hint_55 rfl (lv_at hl 0 rfl) ?_
        refine gfX6_16 hx hb hts (fun _ h => List.mem_cons_of_mem _ (List.mem_append_right _ h)) hown hK hP (hts (Cond.fieldLink RX6 48 "WhoSpeaksModel" "ahead" "[I") (List.mem_of_getElem? (i := 2) rfl)) dX6_hint_56 ?_
        refine lv_iload_n hx hb dX6_hint_59 rfl (lv_at hl 3 rfl) ?_
        refine lv_aload_n hx hb dX6_hint_60 rfl (lv_at hl 0 rfl) ?_
        refine gfX6_14 hx hb hts (fun _ h => List.mem_cons_of_mem _ (List.mem_append_right _ h)) hown hK hP (hts (Cond.fieldLink RX6 42 "WhoSpeaksModel" "narrowed" "[I") (List.mem_of_getElem? (i := 3) rfl)) dX6_hint_61 ?_
        refine lv_iload_n hx hb dX6_hint_64 rfl (lv_at hl 3 rfl) ?_
        obtain ⟨c77, hf⟩ := ck_some hf
        refine alM10 hx hb hK hP c77 dX6_hint_65 ?_
        obtain ⟨c79, hf⟩ := ck_some hf
        refine asM12 (v := (ma S 10 x3.toNatClampNeg)) hx hb hK hP hD hS c79 dX6_hint_66 (fun S78 eS78 H locs hP hS => ?_)
        have hf := bnd_of eS78 hf
        refine lv_iinc (v := (x3 + 1)) (lv' := [(3, .int (x3 + 1)), (0, .ref (ad 0)), (1, .int x1), (2, .int x2)]) hx hb dX6_hint_67 hl (k := 3) rfl rfl (by decide) rfl (fun ls hl => ?_)
        refine lv_goto (tgt := 47) hx hb dX6_hint_70 (by decide) ?_
        exact ih47 (x1) (x2) ((x3 + 1)) S78 H locs ls hP hS (lv_sub hl [1, 2, 3, 0] rfl) hf
  have K30 : ∀ (x1 : Int32) (x2 : Int32) (S : MS) (H : Heap) (locs : List Loc) (ls : Array Slot), va_P D vwCl (wM cy ad S) H → va_S A s.heap H locs → lv_has ls 5 [(0, .ref (ad 0)), (1, .int x1), (2, .int x2)] → bX6_hint_30  x1 x2 S = some (r, S') → W p l e (headSpec wsX6_hint { frames := 8, cells := 0, slots := 0, locals := 178 }).room s m args below meth c H locs 0 0 (MQ below (QcI D A r (wM cy ad S')) args s 0 0 A) (F0 m 30 ls []) := by
    intro  x1 x2 S H locs ls hP hS hl hf
    unfold bX6_hint_30 at hf
    refine lv_aload_n hx hb dX6_hint_30 rfl (lv_at hl 0 rfl) ?_
    refine lv_iload_n hx hb dX6_hint_31 rfl (lv_at hl 1 rfl) ?_
    obtain ⟨r80, h81, hf⟩ := ob1_some hf
    refine kVi (As := [.int x1]) (rest := []) ⟨hx, hb, hml, hown, hts⟩ (okX6_speaks l D cy ad A hD x1 S r80 h81) (cwV 1 hts gX6_hint_X6_speaks rfl rfl rfl (by decide +kernel) ⟨Nat.le_of_ble_eq_true rfl, Nat.le_of_ble_eq_true rfl⟩) hK hP hS (va_recv hK.1 hP (ci := 6) (q := (RX6, TX6, 21)) rfl (atM0 cy ad S)) rfl hl.1 rfl (Nat.le_of_ble_eq_true rfl) dX6_hint_32 (fun H locs hP hS => ?_)
    refine lv_if_ne (tgt := 41) hx hb dX6_hint_35 (by decide) (fun c82 => ?_) (fun c82 => ?_)
    · have hf := (if_neg c82).symm.trans hf
      refine lv_aload_n hx hb dX6_hint_41 rfl (lv_at hl 0 rfl) ?_
      obtain ⟨S84, h83, hf⟩ := ob1_some hf
      refine kVv (As := []) (rest := []) ⟨hx, hb, hml, hown, hts⟩ (okX6_findNarrowed l D cy ad A hD  S S84 h83) (cwV 0 hts gX6_hint_X6_findNarrowed rfl rfl rfl (by decide +kernel) ⟨Nat.le_of_ble_eq_true rfl, Nat.le_of_ble_eq_true rfl⟩) hK hP hS (va_recv hK.1 hP (ci := 6) (q := (RX6, TX6, 21)) rfl (atM0 cy ad S)) rfl hl.1 rfl (Nat.le_of_ble_eq_true rfl) dX6_hint_42 (fun H locs hP hS => ?_)
      refine lv_iconst (v := 0) hx hb dX6_hint_45 (by decide) ?_
      refine lv_istore_n (lv' := [(3, .int 0), (0, .ref (ad 0)), (1, .int x1), (2, .int x2)]) hx hb dX6_hint_46 rfl hl (by decide) rfl (fun ls hl => ?_)
      exact K47  FU (x1) (x2) (0) S84 H locs ls hP hS (lv_sub hl [1, 2, 3, 0] rfl) hf
    · have hf := (if_pos c82).symm.trans hf
      refine lv_bipush (v := (-3)) hx hb dX6_hint_38 (by decide) ?_
      obtain ⟨he, hS9⟩ := Prod.mk.inj (Option.some.inj hf)
      subst hS9
      exact rI hx hb hr hP hS he hlocks dX6_hint_40
  unfold fX6_hint at hf
  suffices hG : ∀ (H : Heap) (locs : List Loc), va_P D vwCl (wM cy ad S) H → va_S A s.heap H locs → W p l e (headSpec wsX6_hint { frames := 8, cells := 0, slots := 0, locals := 178 }).room s m args below meth c H locs 0 0 (MQ below (QcI D A r (wM cy ad S')) args s 0 0 A) (F0 m 0 ls []) by exact hG s.heap [] hP va_S.rf
  clear hP hS
  intro H locs hP hS
  refine lv_aload_n hx hb dX6_hint_0 rfl (lv_at hl 0 rfl) ?_
  refine lv_iload_n hx hb dX6_hint_1 rfl (lv_at hl 1 rfl) ?_
  refine kVi (As := [.int p0]) (rest := []) ⟨hx, hb, hml, hown, hts⟩ (okX6_isParagraph l D cy ad A hD p0 S _ rfl) (cwV 1 hts gX6_hint_X6_isParagraph rfl rfl rfl (by decide +kernel) ⟨Nat.le_of_ble_eq_true rfl, Nat.le_of_ble_eq_true rfl⟩) hK hP hS (va_recv hK.1 hP (ci := 6) (q := (RX6, TX6, 21)) rfl (atM0 cy ad S)) rfl hl.1 rfl (Nat.le_of_ble_eq_true rfl) dX6_hint_2 (fun H locs hP hS => ?_)
  refine lv_if_ne (tgt := 10) hx hb dX6_hint_5 (by decide) (fun c86 => ?_) (fun c86 => ?_)
  · have hf := (if_neg c86).symm.trans hf
    refine lv_iload_n hx hb dX6_hint_10 rfl (lv_at hl 2 rfl) ?_
    refine lv_bipush (v := (-9)) hx hb dX6_hint_11 (by decide) ?_
    refine lv_icmp_eq (tgt := 30) hx hb dX6_hint_13 (by decide) (fun c87 => ?_) (fun c87 => ?_)
    · have hf := (if_pos c87).symm.trans hf
      exact K30  (p0) (p1) S H locs ls hP hS (lv_sub hl [0, 1, 2] rfl) hf
    · have hf := (if_neg c87).symm.trans hf
      refine lv_iload_n hx hb dX6_hint_16 rfl (lv_at hl 2 rfl) ?_
      refine lv_iconst (v := 1) hx hb dX6_hint_17 (by decide) ?_
      refine lv_sipush (v := 255) hx hb dX6_hint_18 (by decide) ?_
      refine kSi (As := [.int p1, .int 1, .int 255]) (rest := []) ⟨hx, hb, hml, hown, hts⟩ (okX6_within l D cy A (wM cy ad S) p1 1 255 _ rfl) (va_cwS 3 hts gX6_hint_X6_within rfl rfl rfl (by decide +kernel) ⟨Nat.le_of_ble_eq_true rfl, Nat.le_of_ble_eq_true rfl⟩) hK hP hS rfl hl.1 rfl (Nat.le_of_ble_eq_true rfl) dX6_hint_21 (fun H locs hP hS => ?_)
      refine lv_if_ne (tgt := 30) hx hb dX6_hint_24 (by decide) (fun c89 => ?_) (fun c89 => ?_)
      · have hf := (if_neg c89).symm.trans hf
        exact K30  (p0) (p1) S H locs ls hP hS (lv_sub hl [0, 1, 2] rfl) hf
      · have hf := (if_pos c89).symm.trans hf
        refine lv_bipush (v := (-2)) hx hb dX6_hint_27 (by decide) ?_
        obtain ⟨he, hS9⟩ := Prod.mk.inj (Option.some.inj hf)
        subst hS9
        exact rI hx hb hr hP hS he hlocks dX6_hint_29
  · have hf := (if_pos c86).symm.trans hf
    refine lv_iconst (v := (-1)) hx hb dX6_hint_8 (by decide) ?_
    obtain ⟨he, hS9⟩ := Prod.mk.inj (Option.some.inj hf)
    subst hS9
    exact rI hx hb hr hP hS he hlocks dX6_hint_9

def fX6_link (p0 : Int32) (S : MS) : Option Int32 := (if (bi (fX6_isParagraph p0 S)) = 0 then (some (-1)) else (ob1 (fX6_linkAt p0 S) (fun r4 => (some r4))))
set_option maxHeartbeats 4000000 in
set_option maxRecDepth 100000 in
theorem okX6_link (l : Launch) (D : va_G) (cy : Nat → ClassId) (ad : Nat → Nat) (A : Nat → Prop) (hD : ∀ S, va_D A (wM cy ad S)) (p0 : Int32) (S : MS) (r : Int32) (hf : fX6_link p0 S = some r) : MI l yX6_link wsX6_link { frames := 3, cells := 0, slots := 0, locals := 66 } D cy A (wM cy ad S) [.ref (ad 0), .int p0] r (wM cy ad S) := by
  refine Met.ofW (cc := cX6_link) (maxL := 2) (ret := (some .int)) (by decide) rfl ?_
  intro p e s m args below meth c s₁ B hml hv
  obtain ⟨ha, hP, hK⟩ := hv
  have hx := B.exec
  have hb := B.bytes
  have hr := B.returns
  have hts := atoms_spec (ws := wsX6_link) B.pre
  have hown : s.vm.findClass RX6 = some m.cls := findClass_of_methodNamed B.named
  have hlocks := B.notSynchronized
  have hS : va_S A s.heap s.heap [] := va_S.rf
  obtain ⟨ls, hl, he0⟩ := ent (m := m) ha (n := 2) (Nat.le_of_ble_eq_true rfl)
  refine W.eq he0 ?_
  have hl : lv_has ls 2 [(0, .ref (ad 0)), (1, .int p0)] := hl
  unfold fX6_link at hf
  suffices hG : ∀ (H : Heap) (locs : List Loc), va_P D vwCl (wM cy ad S) H → va_S A s.heap H locs → W p l e (headSpec wsX6_link { frames := 3, cells := 0, slots := 0, locals := 66 }).room s m args below meth c H locs 0 0 (MQ below (QcI D A r (wM cy ad S)) args s 0 0 A) (F0 m 0 ls []) by exact hG s.heap [] hP va_S.rf
  clear hP hS
  intro H locs hP hS
  refine lv_aload_n hx hb dX6_link_0 rfl (lv_at hl 0 rfl) ?_
  refine lv_iload_n hx hb dX6_link_1 rfl (lv_at hl 1 rfl) ?_
  refine kVi (As := [.int p0]) (rest := []) ⟨hx, hb, hml, hown, hts⟩ (okX6_isParagraph l D cy ad A hD p0 S _ rfl) (cwV 1 hts gX6_link_X6_isParagraph rfl rfl rfl (by decide +kernel) ⟨Nat.le_of_ble_eq_true rfl, Nat.le_of_ble_eq_true rfl⟩) hK hP hS (va_recv hK.1 hP (ci := 6) (q := (RX6, TX6, 21)) rfl (atM0 cy ad S)) rfl hl.1 rfl (Nat.le_of_ble_eq_true rfl) dX6_link_2 (fun H locs hP hS => ?_)
  refine lv_if_eq (tgt := 16) hx hb dX6_link_5 (by decide) (fun c3 => ?_) (fun c3 => ?_)
  · have hf := (if_pos c3).symm.trans hf
    refine lv_iconst (v := (-1)) hx hb dX6_link_16 (by decide) ?_
    have he := Option.some.inj hf
    exact rI hx hb hr hP hS he hlocks dX6_link_17
  · have hf := (if_neg c3).symm.trans hf
    refine lv_aload_n hx hb dX6_link_8 rfl (lv_at hl 0 rfl) ?_
    refine lv_iload_n hx hb dX6_link_9 rfl (lv_at hl 1 rfl) ?_
    obtain ⟨r4, h5, hf⟩ := ob1_some hf
    refine kVi (As := [.int p0]) (rest := []) ⟨hx, hb, hml, hown, hts⟩ (okX6_linkAt l D cy ad A hD p0 S r4 h5) (cwV 1 hts gX6_link_X6_linkAt rfl rfl rfl (by decide +kernel) ⟨Nat.le_of_ble_eq_true rfl, Nat.le_of_ble_eq_true rfl⟩) hK hP hS (va_recv hK.1 hP (ci := 6) (q := (RX6, TX6, 21)) rfl (atM0 cy ad S)) rfl hl.1 rfl (Nat.le_of_ble_eq_true rfl) dX6_link_10 (fun H locs hP hS => ?_)
    refine lv_goto (tgt := 17) hx hb dX6_link_13 (by decide) ?_
    have he := Option.some.inj hf
    exact rI hx hb hr hP hS he hlocks dX6_link_17

def fX6_ways  (S : MS) : Option (Int64 × MS) := (ob2 (fX6_findWays  S) (fun r1 S3 => (some (r1, S3))))
set_option maxHeartbeats 4000000 in
set_option maxRecDepth 100000 in
theorem okX6_ways (l : Launch) (D : va_G) (cy : Nat → ClassId) (ad : Nat → Nat) (A : Nat → Prop) (hD : ∀ S, va_D A (wM cy ad S))  (S : MS) (r : Int64) (S' : MS) (hf : fX6_ways  S = some (r, S')) : ML l yX6_ways wsX6_ways { frames := 8, cells := 0, slots := 0, locals := 177 } D cy A (wM cy ad S) [.ref (ad 0)] r (wM cy ad S') := by
  refine Met.ofW (cc := cX6_ways) (maxL := 1) (ret := (some .long)) (by decide) rfl ?_
  intro p e s m args below meth c s₁ B hml hv
  obtain ⟨ha, hP, hK⟩ := hv
  have hx := B.exec
  have hb := B.bytes
  have hr := B.returns
  have hts := atoms_spec (ws := wsX6_ways) B.pre
  have hown : s.vm.findClass RX6 = some m.cls := findClass_of_methodNamed B.named
  have hlocks := B.notSynchronized
  have hS : va_S A s.heap s.heap [] := va_S.rf
  obtain ⟨ls, hl, he0⟩ := ent (m := m) ha (n := 1) (Nat.le_of_ble_eq_true rfl)
  refine W.eq he0 ?_
  have hl : lv_has ls 1 [(0, .ref (ad 0))] := hl
  unfold fX6_ways at hf
  suffices hG : ∀ (H : Heap) (locs : List Loc), va_P D vwCl (wM cy ad S) H → va_S A s.heap H locs → W p l e (headSpec wsX6_ways { frames := 8, cells := 0, slots := 0, locals := 177 }).room s m args below meth c H locs 0 0 (MQ below (QcL D A r (wM cy ad S')) args s 0 0 A) (F0 m 0 ls []) by exact hG s.heap [] hP va_S.rf
  clear hP hS
  intro H locs hP hS
  refine lv_aload_n hx hb dX6_ways_0 rfl (lv_at hl 0 rfl) ?_
  obtain ⟨r1, S3, h2, hf⟩ := ob2_some hf
  refine kVl (As := []) (rest := []) ⟨hx, hb, hml, hown, hts⟩ (okX6_findWays l D cy ad A hD  S r1 S3 h2) (cwV 0 hts gX6_ways_X6_findWays rfl rfl rfl (by decide +kernel) ⟨Nat.le_of_ble_eq_true rfl, Nat.le_of_ble_eq_true rfl⟩) hK hP hS (va_recv hK.1 hP (ci := 6) (q := (RX6, TX6, 21)) rfl (atM0 cy ad S)) rfl hl.1 rfl (Nat.le_of_ble_eq_true rfl) dX6_ways_1 (fun H locs hP hS => ?_)
  obtain ⟨he, hS9⟩ := Prod.mk.inj (Option.some.inj hf)
  subst hS9
  exact rL hx hb hr hP hS he hlocks dX6_ways_4

def fX6_would (p0 : Int32) (p1 : Int32) (S : MS) : Option (Int64 × MS) := (if (bi (fX6_isParagraph p0 S)) = 0 then (some ((-1), S)) else (ob1 (fX6_isThere p1 S) (fun r6 => (if (bi r6) = 0 then (some ((-1), S)) else (ob2 (fX6_findWays  S) (fun r9 S11 => (ob1 (fX6_speaks p0 S11) (fun r12 => (if (bi r12) = 0 then (some (0, S11)) else (ob1 (fX6_waysWith p0 p1 S11) (fun r15 => (some (r15, S11)))))))))))))
set_option maxHeartbeats 4000000 in
set_option maxRecDepth 100000 in
theorem okX6_would (l : Launch) (D : va_G) (cy : Nat → ClassId) (ad : Nat → Nat) (A : Nat → Prop) (hD : ∀ S, va_D A (wM cy ad S)) (p0 : Int32) (p1 : Int32) (S : MS) (r : Int64) (S' : MS) (hf : fX6_would p0 p1 S = some (r, S')) : ML l yX6_would wsX6_would { frames := 8, cells := 0, slots := 0, locals := 177 } D cy A (wM cy ad S) [.ref (ad 0), .int p0, .int p1] r (wM cy ad S') := by
  refine Met.ofW (cc := cX6_would) (maxL := 3) (ret := (some .long)) (by decide) rfl ?_
  intro p e s m args below meth c s₁ B hml hv
  obtain ⟨ha, hP, hK⟩ := hv
  have hx := B.exec
  have hb := B.bytes
  have hr := B.returns
  have hts := atoms_spec (ws := wsX6_would) B.pre
  have hown : s.vm.findClass RX6 = some m.cls := findClass_of_methodNamed B.named
  have hlocks := B.notSynchronized
  have hS : va_S A s.heap s.heap [] := va_S.rf
  obtain ⟨ls, hl, he0⟩ := ent (m := m) ha (n := 3) (Nat.le_of_ble_eq_true rfl)
  refine W.eq he0 ?_
  have hl : lv_has ls 3 [(0, .ref (ad 0)), (1, .int p0), (2, .int p1)] := hl
  unfold fX6_would at hf
  suffices hG : ∀ (H : Heap) (locs : List Loc), va_P D vwCl (wM cy ad S) H → va_S A s.heap H locs → W p l e (headSpec wsX6_would { frames := 8, cells := 0, slots := 0, locals := 177 }).room s m args below meth c H locs 0 0 (MQ below (QcL D A r (wM cy ad S')) args s 0 0 A) (F0 m 0 ls []) by exact hG s.heap [] hP va_S.rf
  clear hP hS
  intro H locs hP hS
  refine lv_aload_n hx hb dX6_would_0 rfl (lv_at hl 0 rfl) ?_
  refine lv_iload_n hx hb dX6_would_1 rfl (lv_at hl 1 rfl) ?_
  refine kVi (As := [.int p0]) (rest := []) ⟨hx, hb, hml, hown, hts⟩ (okX6_isParagraph l D cy ad A hD p0 S _ rfl) (cwV 1 hts gX6_would_X6_isParagraph rfl rfl rfl (by decide +kernel) ⟨Nat.le_of_ble_eq_true rfl, Nat.le_of_ble_eq_true rfl⟩) hK hP hS (va_recv hK.1 hP (ci := 6) (q := (RX6, TX6, 21)) rfl (atM0 cy ad S)) rfl hl.1 rfl (Nat.le_of_ble_eq_true rfl) dX6_would_2 (fun H locs hP hS => ?_)
  refine lv_if_eq (tgt := 16) hx hb dX6_would_5 (by decide) (fun c5 => ?_) (fun c5 => ?_)
  · have hf := (if_pos c5).symm.trans hf
    refine lv_ldc2 hx hb hown (hts (Cond.constantLong RX6 182 (-1)) (List.mem_of_getElem? (i := 1) rfl)) dX6_would_16 ?_
    obtain ⟨he, hS9⟩ := Prod.mk.inj (Option.some.inj hf)
    subst hS9
    exact rL hx hb hr hP hS he hlocks dX6_would_19
  · have hf := (if_neg c5).symm.trans hf
    refine lv_aload_n hx hb dX6_would_8 rfl (lv_at hl 0 rfl) ?_
    refine lv_iload_n hx hb dX6_would_9 rfl (lv_at hl 2 rfl) ?_
    obtain ⟨r6, h7, hf⟩ := ob1_some hf
    refine kVi (As := [.int p1]) (rest := []) ⟨hx, hb, hml, hown, hts⟩ (okX6_isThere l D cy ad A hD p1 S r6 h7) (cwV 1 hts gX6_would_X6_isThere rfl rfl rfl (by decide +kernel) ⟨Nat.le_of_ble_eq_true rfl, Nat.le_of_ble_eq_true rfl⟩) hK hP hS (va_recv hK.1 hP (ci := 6) (q := (RX6, TX6, 21)) rfl (atM0 cy ad S)) rfl hl.1 rfl (Nat.le_of_ble_eq_true rfl) dX6_would_10 (fun H locs hP hS => ?_)
    refine lv_if_ne (tgt := 20) hx hb dX6_would_13 (by decide) (fun c8 => ?_) (fun c8 => ?_)
    · have hf := (if_neg c8).symm.trans hf
      refine lv_aload_n hx hb dX6_would_20 rfl (lv_at hl 0 rfl) ?_
      obtain ⟨r9, S11, h10, hf⟩ := ob2_some hf
      refine kVl (As := []) (rest := []) ⟨hx, hb, hml, hown, hts⟩ (okX6_findWays l D cy ad A hD  S r9 S11 h10) (cwV 0 hts gX6_would_X6_findWays rfl rfl rfl (by decide +kernel) ⟨Nat.le_of_ble_eq_true rfl, Nat.le_of_ble_eq_true rfl⟩) hK hP hS (va_recv hK.1 hP (ci := 6) (q := (RX6, TX6, 21)) rfl (atM0 cy ad S)) rfl hl.1 rfl (Nat.le_of_ble_eq_true rfl) dX6_would_21 (fun H locs hP hS => ?_)
      refine lv_pop2_2 hx hb dX6_would_24 rfl ?_
      refine lv_aload_n hx hb dX6_would_25 rfl (lv_at hl 0 rfl) ?_
      refine lv_iload_n hx hb dX6_would_26 rfl (lv_at hl 1 rfl) ?_
      obtain ⟨r12, h13, hf⟩ := ob1_some hf
      refine kVi (As := [.int p0]) (rest := []) ⟨hx, hb, hml, hown, hts⟩ (okX6_speaks l D cy ad A hD p0 S11 r12 h13) (cwV 1 hts gX6_would_X6_speaks rfl rfl rfl (by decide +kernel) ⟨Nat.le_of_ble_eq_true rfl, Nat.le_of_ble_eq_true rfl⟩) hK hP hS (va_recv hK.1 hP (ci := 6) (q := (RX6, TX6, 21)) rfl (atM0 cy ad S11)) rfl hl.1 rfl (Nat.le_of_ble_eq_true rfl) dX6_would_27 (fun H locs hP hS => ?_)
      refine lv_if_eq (tgt := 42) hx hb dX6_would_30 (by decide) (fun c14 => ?_) (fun c14 => ?_)
      · have hf := (if_pos c14).symm.trans hf
        refine lv_lconst (v := 0) hx hb dX6_would_42 (by decide) ?_
        obtain ⟨he, hS9⟩ := Prod.mk.inj (Option.some.inj hf)
        subst hS9
        exact rL hx hb hr hP hS he hlocks dX6_would_43
      · have hf := (if_neg c14).symm.trans hf
        refine lv_aload_n hx hb dX6_would_33 rfl (lv_at hl 0 rfl) ?_
        refine lv_iload_n hx hb dX6_would_34 rfl (lv_at hl 1 rfl) ?_
        refine lv_iload_n hx hb dX6_would_35 rfl (lv_at hl 2 rfl) ?_
        obtain ⟨r15, h16, hf⟩ := ob1_some hf
        refine kVl (As := [.int p0, .int p1]) (rest := []) ⟨hx, hb, hml, hown, hts⟩ (okX6_waysWith l D cy ad A hD p0 p1 S11 r15 h16) (cwV 2 hts gX6_would_X6_waysWith rfl rfl rfl (by decide +kernel) ⟨Nat.le_of_ble_eq_true rfl, Nat.le_of_ble_eq_true rfl⟩) hK hP hS (va_recv hK.1 hP (ci := 6) (q := (RX6, TX6, 21)) rfl (atM0 cy ad S11)) rfl hl.1 rfl (Nat.le_of_ble_eq_true rfl) dX6_would_36 (fun H locs hP hS => ?_)
        refine lv_goto (tgt := 43) hx hb dX6_would_39 (by decide) ?_
        obtain ⟨he, hS9⟩ := Prod.mk.inj (Option.some.inj hf)
        subst hS9
        exact rL hx hb hr hP hS he hlocks dX6_would_43
    · have hf := (if_pos c8).symm.trans hf
      refine lv_ldc2 hx hb hown (hts (Cond.constantLong RX6 182 (-1)) (List.mem_of_getElem? (i := 1) rfl)) dX6_would_16 ?_
      obtain ⟨he, hS9⟩ := Prod.mk.inj (Option.some.inj hf)
      subst hS9
      exact rL hx hb hr hP hS he hlocks dX6_would_19

def bX6_conflict_45  (k45 : Int32 × Int32 × Int32 × MS → Option (Int32 × MS)) (x1 : Int32) (x2 : Int32) (x3 : Int32) (S : MS) : Option (Int32 × MS) := (ob2 (fX6_countUp x3 x2 S) (fun r21 S23 => (if (lg_cmp r21 0) ≤ 0 then (if x1 = 0 then (some (x3, S23)) else (some (x2, S23))) else (k45 (x1, x2, (x3 + (-1)), S23)))))
def bX6_conflict_26  (k26 : Int32 × Int32 × MS → Option (Int32 × MS)) (x1 : Int32) (x2 : Int32) (S : MS) : Option (Int32 × MS) := (ob2 (fX6_countUp 0 x2 S) (fun r26 S28 => (if (lg_cmp r26 0) ≤ 0 then (lp (fun k q => bX6_conflict_45  k q.1 q.2.1 q.2.2.1 q.2.2.2) FU (x1, x2, x2, S28)) else (k26 (x1, (x2 + 1), S28)))))
def fX6_conflict (p0 : Int32) (S : MS) : Option (Int32 × MS) := (if (bi (fX6_within p0 0 1)) = 0 then (some ((-2), S)) else (ob2 (fX6_findWays  S) (fun r32 S34 => (if (lg_cmp r32 0) ≤ 0 then (lp (fun k q => bX6_conflict_26  k q.1 q.2.1 q.2.2) FU (p0, 0, S34)) else (some ((-9), S34))))))
set_option maxHeartbeats 4000000 in
set_option maxRecDepth 100000 in
theorem okX6_conflict (l : Launch) (D : va_G) (cy : Nat → ClassId) (ad : Nat → Nat) (A : Nat → Prop) (hD : ∀ S, va_D A (wM cy ad S)) (p0 : Int32) (S : MS) (r : Int32) (S' : MS) (hf : fX6_conflict p0 S = some (r, S')) : MI l yX6_conflict wsX6_conflict { frames := 8, cells := 0, slots := 0, locals := 177 } D cy A (wM cy ad S) [.ref (ad 0), .int p0] r (wM cy ad S') := by
  refine Met.ofW (cc := cX6_conflict) (maxL := 4) (ret := (some .int)) (by decide) rfl ?_
  intro p e s m args below meth c s₁ B hml hv
  obtain ⟨ha, hP, hK⟩ := hv
  have hx := B.exec
  have hb := B.bytes
  have hr := B.returns
  have hts := atoms_spec (ws := wsX6_conflict) B.pre
  have hown : s.vm.findClass RX6 = some m.cls := findClass_of_methodNamed B.named
  have hlocks := B.notSynchronized
  have hS : va_S A s.heap s.heap [] := va_S.rf
  obtain ⟨ls, hl, he0⟩ := ent (m := m) ha (n := 4) (Nat.le_of_ble_eq_true rfl)
  refine W.eq he0 ?_
  have hl : lv_has ls 4 [(0, .ref (ad 0)), (1, .int p0)] := hl
  have K45 : ∀ (n : Nat), ∀ (x1 : Int32) (x2 : Int32) (x3 : Int32) (S : MS) (H : Heap) (locs : List Loc) (ls : Array Slot), va_P D vwCl (wM cy ad S) H → va_S A s.heap H locs → lv_has ls 4 [(0, .ref (ad 0)), (1, .int x1), (2, .int x2), (3, .int x3)] → lp (fun k q => bX6_conflict_45  k q.1 q.2.1 q.2.2.1 q.2.2.2) n (x1, x2, x3, S) = some (r, S') → W p l e (headSpec wsX6_conflict { frames := 8, cells := 0, slots := 0, locals := 177 }).room s m args below meth c H locs 0 0 (MQ below (QcI D A r (wM cy ad S')) args s 0 0 A) (F0 m 45 ls []) := by
    intro  n
    induction n with
    | zero =>
      intro x1 x2 x3 S H locs ls hP hS hl hf
      cases hf
    | succ n ih45 =>
      intro x1 x2 x3 S H locs ls hP hS hl hf
      have hf : bX6_conflict_45  (lp (fun k q => bX6_conflict_45  k q.1 q.2.1 q.2.2.1 q.2.2.2) n) x1 x2 x3 S = some (r, S') := hf
      generalize lp (fun k q => bX6_conflict_45  k q.1 q.2.1 q.2.2.1 q.2.2.2) n = k45 at hf ih45
      unfold bX6_conflict_45 at hf
      refine lv_aload_n hx hb dX6_conflict_45 rfl (lv_at hl 0 rfl) ?_
      refine lv_iload_n hx hb dX6_conflict_46 rfl (lv_at hl 3 rfl) ?_
      refine lv_iload_n hx hb dX6_conflict_47 rfl (lv_at hl 2 rfl) ?_
      obtain ⟨r21, S23, h22, hf⟩ := ob2_some hf
      refine kVl (As := [.int x3, .int x2]) (rest := []) ⟨hx, hb, hml, hown, hts⟩ (okX6_countUp l D cy ad A hD x3 x2 S r21 S23 h22) (cwV 2 hts gX6_conflict_X6_countUp rfl rfl rfl (by decide +kernel) ⟨Nat.le_of_ble_eq_true rfl, Nat.le_of_ble_eq_true rfl⟩) hK hP hS (va_recv hK.1 hP (ci := 6) (q := (RX6, TX6, 21)) rfl (atM0 cy ad S)) rfl hl.1 rfl (Nat.le_of_ble_eq_true rfl) dX6_conflict_48 (fun H locs hP hS => ?_)
      refine lv_lconst (v := 0) hx hb dX6_conflict_51 (by decide) ?_
      refine W.lcmp hx hb dX6_conflict_52 ?_
      refine lv_if_le (tgt := 62) hx hb dX6_conflict_53 (by decide) (fun c24 => ?_) (fun c24 => ?_)
      · have hf := (if_pos c24).symm.trans hf
        refine lv_iload_n hx hb dX6_conflict_62 rfl (lv_at hl 1 rfl) ?_
        refine lv_if_ne (tgt := 70) hx hb dX6_conflict_63 (by decide) (fun c25 => ?_) (fun c25 => ?_)
        · have hf := (if_neg c25).symm.trans hf
          refine lv_iload_n hx hb dX6_conflict_70 rfl (lv_at hl 2 rfl) ?_
          obtain ⟨he, hS9⟩ := Prod.mk.inj (Option.some.inj hf)
          subst hS9
          exact rI hx hb hr hP hS he hlocks dX6_conflict_71
        · have hf := (if_pos c25).symm.trans hf
          refine lv_iload_n hx hb dX6_conflict_66 rfl (lv_at hl 3 rfl) ?_
          refine lv_goto (tgt := 71) hx hb dX6_conflict_67 (by decide) ?_
          obtain ⟨he, hS9⟩ := Prod.mk.inj (Option.some.inj hf)
          subst hS9
          exact rI hx hb hr hP hS he hlocks dX6_conflict_71
      · have hf := (if_neg c24).symm.trans hf
        refine lv_iinc (v := (x3 + (-1))) (lv' := [(3, .int (x3 + (-1))), (0, .ref (ad 0)), (1, .int x1), (2, .int x2)]) hx hb dX6_conflict_56 hl (k := 3) rfl rfl (by decide) rfl (fun ls hl => ?_)
        refine lv_goto (tgt := 45) hx hb dX6_conflict_59 (by decide) ?_
        exact ih45 (x1) (x2) ((x3 + (-1))) S23 H locs ls hP hS (lv_sub hl [1, 2, 3, 0] rfl) hf
  have K26 : ∀ (n : Nat), ∀ (x1 : Int32) (x2 : Int32) (S : MS) (H : Heap) (locs : List Loc) (ls : Array Slot), va_P D vwCl (wM cy ad S) H → va_S A s.heap H locs → lv_has ls 4 [(0, .ref (ad 0)), (1, .int x1), (2, .int x2)] → lp (fun k q => bX6_conflict_26  k q.1 q.2.1 q.2.2) n (x1, x2, S) = some (r, S') → W p l e (headSpec wsX6_conflict { frames := 8, cells := 0, slots := 0, locals := 177 }).room s m args below meth c H locs 0 0 (MQ below (QcI D A r (wM cy ad S')) args s 0 0 A) (F0 m 26 ls []) := by
    intro  n
    induction n with
    | zero =>
      intro x1 x2 S H locs ls hP hS hl hf
      cases hf
    | succ n ih26 =>
      intro x1 x2 S H locs ls hP hS hl hf
      have hf : bX6_conflict_26  (lp (fun k q => bX6_conflict_26  k q.1 q.2.1 q.2.2) n) x1 x2 S = some (r, S') := hf
      generalize lp (fun k q => bX6_conflict_26  k q.1 q.2.1 q.2.2) n = k26 at hf ih26
      unfold bX6_conflict_26 at hf
      refine lv_aload_n hx hb dX6_conflict_26 rfl (lv_at hl 0 rfl) ?_
      refine lv_iconst (v := 0) hx hb dX6_conflict_27 (by decide) ?_
      refine lv_iload_n hx hb dX6_conflict_28 rfl (lv_at hl 2 rfl) ?_
      obtain ⟨r26, S28, h27, hf⟩ := ob2_some hf
      refine kVl (As := [.int 0, .int x2]) (rest := []) ⟨hx, hb, hml, hown, hts⟩ (okX6_countUp l D cy ad A hD 0 x2 S r26 S28 h27) (cwV 2 hts gX6_conflict_X6_countUp rfl rfl rfl (by decide +kernel) ⟨Nat.le_of_ble_eq_true rfl, Nat.le_of_ble_eq_true rfl⟩) hK hP hS (va_recv hK.1 hP (ci := 6) (q := (RX6, TX6, 21)) rfl (atM0 cy ad S)) rfl hl.1 rfl (Nat.le_of_ble_eq_true rfl) dX6_conflict_29 (fun H locs hP hS => ?_)
      refine lv_lconst (v := 0) hx hb dX6_conflict_32 (by decide) ?_
      refine W.lcmp hx hb dX6_conflict_33 ?_
      refine lv_if_le (tgt := 43) hx hb dX6_conflict_34 (by decide) (fun c29 => ?_) (fun c29 => ?_)
      · have hf := (if_pos c29).symm.trans hf
        refine lv_iload_n hx hb dX6_conflict_43 rfl (lv_at hl 2 rfl) ?_
        refine lv_istore_n (lv' := [(3, .int x2), (0, .ref (ad 0)), (1, .int x1), (2, .int x2)]) hx hb dX6_conflict_44 rfl hl (by decide) rfl (fun ls hl => ?_)
        exact K45  FU (x1) (x2) (x2) S28 H locs ls hP hS (lv_sub hl [1, 2, 3, 0] rfl) hf
      · have hf := (if_neg c29).symm.trans hf
        refine lv_iinc (v := (x2 + 1)) (lv' := [(2, .int (x2 + 1)), (0, .ref (ad 0)), (1, .int x1)]) hx hb dX6_conflict_37 hl (k := 2) rfl rfl (by decide) rfl (fun ls hl => ?_)
        refine lv_goto (tgt := 26) hx hb dX6_conflict_40 (by decide) ?_
        exact ih26 (x1) ((x2 + 1)) S28 H locs ls hP hS (lv_sub hl [1, 2, 0] rfl) hf
  unfold fX6_conflict at hf
  suffices hG : ∀ (H : Heap) (locs : List Loc), va_P D vwCl (wM cy ad S) H → va_S A s.heap H locs → W p l e (headSpec wsX6_conflict { frames := 8, cells := 0, slots := 0, locals := 177 }).room s m args below meth c H locs 0 0 (MQ below (QcI D A r (wM cy ad S')) args s 0 0 A) (F0 m 0 ls []) by exact hG s.heap [] hP va_S.rf
  clear hP hS
  intro H locs hP hS
  refine lv_iload_n hx hb dX6_conflict_0 rfl (lv_at hl 1 rfl) ?_
  refine lv_iconst (v := 0) hx hb dX6_conflict_1 (by decide) ?_
  refine lv_iconst (v := 1) hx hb dX6_conflict_2 (by decide) ?_
  refine kSi (As := [.int p0, .int 0, .int 1]) (rest := []) ⟨hx, hb, hml, hown, hts⟩ (okX6_within l D cy A (wM cy ad S) p0 0 1 _ rfl) (va_cwS 3 hts gX6_conflict_X6_within rfl rfl rfl (by decide +kernel) ⟨Nat.le_of_ble_eq_true rfl, Nat.le_of_ble_eq_true rfl⟩) hK hP hS rfl hl.1 rfl (Nat.le_of_ble_eq_true rfl) dX6_conflict_3 (fun H locs hP hS => ?_)
  refine lv_if_ne (tgt := 12) hx hb dX6_conflict_6 (by decide) (fun c31 => ?_) (fun c31 => ?_)
  · have hf := (if_neg c31).symm.trans hf
    refine lv_aload_n hx hb dX6_conflict_12 rfl (lv_at hl 0 rfl) ?_
    obtain ⟨r32, S34, h33, hf⟩ := ob2_some hf
    refine kVl (As := []) (rest := []) ⟨hx, hb, hml, hown, hts⟩ (okX6_findWays l D cy ad A hD  S r32 S34 h33) (cwV 0 hts gX6_conflict_X6_findWays rfl rfl rfl (by decide +kernel) ⟨Nat.le_of_ble_eq_true rfl, Nat.le_of_ble_eq_true rfl⟩) hK hP hS (va_recv hK.1 hP (ci := 6) (q := (RX6, TX6, 21)) rfl (atM0 cy ad S)) rfl hl.1 rfl (Nat.le_of_ble_eq_true rfl) dX6_conflict_13 (fun H locs hP hS => ?_)
    refine lv_lconst (v := 0) hx hb dX6_conflict_16 (by decide) ?_
    refine W.lcmp hx hb dX6_conflict_17 ?_
    refine lv_if_le (tgt := 24) hx hb dX6_conflict_18 (by decide) (fun c35 => ?_) (fun c35 => ?_)
    · have hf := (if_pos c35).symm.trans hf
      refine lv_iconst (v := 0) hx hb dX6_conflict_24 (by decide) ?_
      refine lv_istore_n (lv' := [(2, .int 0), (0, .ref (ad 0)), (1, .int p0)]) hx hb dX6_conflict_25 rfl hl (by decide) rfl (fun ls hl => ?_)
      exact K26  FU (p0) (0) S34 H locs ls hP hS (lv_sub hl [1, 2, 0] rfl) hf
    · have hf := (if_neg c35).symm.trans hf
      refine lv_bipush (v := (-9)) hx hb dX6_conflict_21 (by decide) ?_
      obtain ⟨he, hS9⟩ := Prod.mk.inj (Option.some.inj hf)
      subst hS9
      exact rI hx hb hr hP hS he hlocks dX6_conflict_23
  · have hf := (if_pos c31).symm.trans hf
    refine lv_bipush (v := (-2)) hx hb dX6_conflict_9 (by decide) ?_
    obtain ⟨he, hS9⟩ := Prod.mk.inj (Option.some.inj hf)
    subst hS9
    exact rI hx hb hr hP hS he hlocks dX6_conflict_11
