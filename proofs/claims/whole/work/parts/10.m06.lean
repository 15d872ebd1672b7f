def bX6_asked_68 (k12 : Int32 × Int64 × Int32 × MS → Option (Int32 × MS)) (k27 : Int32 × Int64 × Int32 × Int64 × Int32 × MS → Option (Int32 × MS)) (x1 : Int32) (x2 : Int64) (x4 : Int32) (x5 : Int64) (x7 : Int32) (s0 : Bool) (S : MS) : Option (Int32 × MS) := (if (bi s0) = 0 then (k27 (x1, x2, x4, x5, (x7 + 1), S)) else (ob1 (fX6_waysWith x4 x7 S) (fun r52 => (k27 (x1, x2, x4, r52, (x7 + 1), S)))))
def bX6_asked_27 (k12 : Int32 × Int64 × Int32 × MS → Option (Int32 × MS)) (k27 : Int32 × Int64 × Int32 × Int64 × Int32 × MS → Option (Int32 × MS)) (x1 : Int32) (x2 : Int64) (x4 : Int32) (x5 : Int64) (x7 : Int32) (S : MS) : Option (Int32 × MS) := (if 8 ≤ x7 then (ck x4 16 (ob1 (fX6_size (ma S 15 x4.toNatClampNeg)) (fun r56 => (if r56 ≤ 1 then (k12 (x1, x2, (x4 + 1), S)) else (if x1 = (-9) then (k12 (x4, x5, (x4 + 1), S)) else (if 0 ≤ (lg_cmp x5 x2) then (k12 (x1, x2, (x4 + 1), S)) else (k12 (x4, x5, (x4 + 1), S)))))))) else (ck x4 16 (if (bi (fX6_has (ma S 15 x4.toNatClampNeg) x7)) = 0 then (bX6_asked_68 k12 k27 (x1) (x2) (x4) (x5) (x7) (false) S) else (ob1 (fX6_waysWith x4 x7 S) (fun r64 => (if (lg_cmp r64 x5) ≤ 0 then (bX6_asked_68 k12 k27 (x1) (x2) (x4) (x5) (x7) (false) S) else (bX6_asked_68 k12 k27 (x1) (x2) (x4) (x5) (x7) (true) S)))))))
def bX6_asked_12  (k12 : Int32 × Int64 × Int32 × MS → Option (Int32 × MS)) (x1 : Int32) (x2 : Int64) (x4 : Int32) (S : MS) : Option (Int32 × MS) := (if (mi S 3) ≤ x4 then (some (x1, S)) else (lp (fun k q => bX6_asked_27 k12 k q.1 q.2.1 q.2.2.1 q.2.2.2.1 q.2.2.2.2.1 q.2.2.2.2.2) FU (x1, x2, x4, 0, 0, S)))
def fX6_asked  (S : MS) : Option (Int32 × MS) := (ob1 (fX6_findSure  S) (fun S69 => (lp (fun k q => bX6_asked_12  k q.1 q.2.1 q.2.2.1 q.2.2.2) FU ((-9), 0, 0, S69))))
set_option maxHeartbeats 4000000 in
set_option maxRecDepth 100000 in
theorem okX6_asked (l : Launch) (D : va_G) (cy : Nat → ClassId) (ad : Nat → Nat) (A : Nat → Prop) (hD : ∀ S, va_D A (wM cy ad S))  (S : MS) (r : Int32) (S' : MS) (hf : fX6_asked  S = some (r, S')) : MI l yX6_asked wsX6_asked { frames := 9, cells := 0, slots := 0, locals := 199 } D cy A (wM cy ad S) [.ref (ad 0)] r (wM cy ad S') := by
  refine Met.ofW (cc := cX6_asked) (maxL := 9) (ret := (some .int)) (by decide) rfl ?_
  intro p e s m args below meth c s₁ B hml hv
  obtain ⟨ha, hP, hK⟩ := hv
  have hx := B.exec
  have hb := B.bytes
  have hr := B.returns
  have hts := atoms_spec (ws := wsX6_asked) B.pre
  have hown : s.vm.findClass RX6 = some m.cls := findClass_of_methodNamed B.named
  have hlocks := B.notSynchronized
  have hS : va_S A s.heap s.heap [] := va_S.rf
  obtain ⟨ls, hl, he0⟩ := ent (m := m) ha (n := 9) (Nat.le_of_ble_eq_true rfl)
  refine W.eq he0 ?_
  have hl : lv_has ls 9 [(0, .ref (ad 0))] := hl
  have K68 : ∀ (k12 : Int32 × Int64 × Int32 × MS → Option (Int32 × MS)), (∀ (x1 : Int32) (x2 : Int64) (x4 : Int32) (S : MS) (H : Heap) (locs : List Loc) (ls : Array Slot), va_P D vwCl (wM cy ad S) H → va_S A s.heap H locs → lv_has ls 9 [(0, .ref (ad 0)), (1, .int x1), (2, .long x2), (4, .int x4)] → k12 (x1, x2, x4, S) = some (r, S') → W p l e (headSpec wsX6_asked { frames := 9, cells := 0, slots := 0, locals := 199 }).room s m args below meth c H locs 0 0 (MQ below (QcI D A r (wM cy ad S')) args s 0 0 A) (F0 m 12 ls [])) → ∀ (k27 : Int32 × Int64 × Int32 × Int64 × Int32 × MS → Option (Int32 × MS)), (∀ (x1 : Int32) (x2 : Int64) (x4 : Int32) (x5 : Int64) (x7 : Int32) (S : MS) (H : Heap) (locs : List Loc) (ls : Array Slot), va_P D vwCl (wM cy ad S) H → va_S A s.heap H locs → lv_has ls 9 [(0, .ref (ad 0)), (1, .int x1), (2, .long x2), (4, .int x4), (5, .long x5), (7, .int x7)] → k27 (x1, x2, x4, x5, x7, S) = some (r, S') → W p l e (headSpec wsX6_asked { frames := 9, cells := 0, slots := 0, locals := 199 }).room s m args below meth c H locs 0 0 (MQ below (QcI D A r (wM cy ad S')) args s 0 0 A) (F0 m 27 ls [])) → ∀ (x1 : Int32) (x2 : Int64) (x4 : Int32) (x5 : Int64) (x7 : Int32) (s0 : Bool) (S : MS) (H : Heap) (locs : List Loc) (ls : Array Slot), va_P D vwCl (wM cy ad S) H → va_S A s.heap H locs → lv_has ls 9 [(0, .ref (ad 0)), (1, .int x1), (2, .long x2), (4, .int x4), (5, .long x5), (7, .int x7)] → bX6_asked_68 k12 k27 x1 x2 x4 x5 x7 s0 S = some (r, S') → W p l e (headSpec wsX6_asked { frames := 9, cells := 0, slots := 0, locals := 199 }).room s m args below meth c H locs 0 0 (MQ below (QcI D A r (wM cy ad S')) args s 0 0 A) (F0 m 68 ls [.int (bi s0)]) := by
    intro k12 ih12 k27 ih27 x1 x2 x4 x5 x7 s0 S H locs ls hP hS hl hf
    unfold bX6_asked_68 at hf
    refine lv_istore (lv' := [(8, .int (bi s0)), (0, .ref (ad 0)), (1, .int x1), (2, .long x2), (4, .int x4), (5, .long x5), (7, .int x7)]) hx hb dX6_asked_68 hl (by decide) rfl (fun ls hl => ?_)
    refine lv_iload hx hb dX6_asked_70 (lv_at hl 0 rfl) ?_
    refine lv_if_eq (tgt := 86) hx hb dX6_asked_72 (by decide) (fun c51 => ?_) (fun c51 => ?_)
    · have hf := (if_pos c51).symm.trans hf
      refine lv_lload hx hb dX6_asked_86 (lv_at hl 5 rfl) ?_
      refine lv_lstore (lv' := [(5, .long x5), (8, .int (bi s0)), (0, .ref (ad 0)), (1, .int x1), (2, .long x2), (4, .int x4), (7, .int x7)]) hx hb dX6_asked_88 hl (by decide) rfl (fun ls hl => ?_)
      refine lv_iinc (v := (x7 + 1)) (lv' := [(7, .int (x7 + 1)), (5, .long x5), (8, .int (bi s0)), (0, .ref (ad 0)), (1, .int x1), (2, .long x2), (4, .int x4)]) hx hb dX6_asked_90 hl (k := 6) rfl rfl (by decide) rfl (fun ls hl => ?_)
      refine lv_goto (tgt := 27) hx hb dX6_asked_93 (by decide) ?_
      exact ih27 (x1) (x2) (x4) (x5) ((x7 + 1)) S H locs ls hP hS (lv_sub hl [3, 4, 5, 6, 1, 0] rfl) hf
    · have hf := (if_neg c51).symm.trans hf
      refine lv_aload_n hx hb dX6_asked_75 rfl (lv_at hl 1 rfl) ?_
      refine lv_iload hx hb dX6_asked_76 (lv_at hl 4 rfl) ?_
      refine lv_iload hx hb dX6_asked_78 (lv_at hl 6 rfl) ?_
      obtain ⟨r52, h53, hf⟩ := ob1_some hf
      refine kVl (As := [.int x4, .int x7]) (rest := []) ⟨hx, hb, hml, hown, hts⟩ (okX6_waysWith l D cy ad A hD x4 x7 S r52 h53) (cwV 2 hts gX6_asked_X6_waysWith rfl rfl rfl (by decide +kernel) ⟨Nat.le_of_ble_eq_true rfl, Nat.le_of_ble_eq_true rfl⟩) hK hP hS (va_recv hK.1 hP (ci := 6) (q := (RX6, TX6, 21)) rfl (atM0 cy ad S)) rfl hl.1 rfl (Nat.le_of_ble_eq_true rfl) dX6_asked_80 (fun H locs hP hS => ?_)
      refine lv_goto (tgt := 88) hx hb dX6_asked_83 (by decide) ?_
      refine lv_lstore (lv' := [(5, .long r52), (8, .int (bi s0)), (0, .ref (ad 0)), (1, .int x1), (2, .long x2), (4, .int x4), (7, .int x7)]) hx hb dX6_asked_88 hl (by decide) rfl (fun ls hl => ?_)
      refine lv_iinc (v := (x7 + 1)) (lv' := [(7, .int (x7 + 1)), (5, .long r52), (8, .int (bi s0)), (0, .ref (ad 0)), (1, .int x1), (2, .long x2), (4, .int x4)]) hx hb dX6_asked_90 hl (k := 6) rfl rfl (by decide) rfl (fun ls hl => ?_)
      refine lv_goto (tgt := 27) hx hb dX6_asked_93 (by decide) ?_
      exact ih27 (x1) (x2) (x4) (r52) ((x7 + 1)) S H locs ls hP hS (lv_sub hl [3, 4, 5, 6, 1, 0] rfl) hf
  have K27 : ∀ (k12 : Int32 × Int64 × Int32 × MS → Option (Int32 × MS)), (∀ (x1 : Int32) (x2 : Int64) (x4 : Int32) (S : MS) (H : Heap) (locs : List Loc) (ls : Array Slot), va_P D vwCl (wM cy ad S) H → va_S A s.heap H locs → lv_has ls 9 [(0, .ref (ad 0)), (1, .int x1), (2, .long x2), (4, .int x4)] → k12 (x1, x2, x4, S) = some (r, S') → W p l e (headSpec wsX6_asked { frames := 9, cells := 0, slots := 0, locals := 199 }).room s m args below meth c H locs 0 0 (MQ below (QcI D A r (wM cy ad S')) args s 0 0 A) (F0 m 12 ls [])) → ∀ (n : Nat), ∀ (x1 : Int32) (x2 : Int64) (x4 : Int32) (x5 : Int64) (x7 : Int32) (S : MS) (H : Heap) (locs : List Loc) (ls : Array Slot), va_P D vwCl (wM cy ad S) H → va_S A s.heap H locs → lv_has ls 9 [(0, .ref (ad 0)), (1, .int x1), (2, .long x2), (4, .int x4), (5, .long x5), (7, .int x7)] → lp (fun k q => bX6_asked_27 k12 k q.1 q.2.1 q.2.2.1 q.2.2.2.1 q.2.2.2.2.1 q.2.2.2.2.2) n (x1, x2, x4, x5, x7, S) = some (r, S') → W p l e (headSpec wsX6_asked { frames := 9, cells := 0, slots := 0, locals := 199 }).room s m args below meth c H locs 0 0 (MQ below (QcI D A r (wM cy ad S')) args s 0 0 A) (F0 m 27 ls []) := by
    intro k12 ih12 n
    induction n with
    | zero =>
      intro x1 x2 x4 x5 x7 S H locs ls hP hS hl hf
      cases hf
    | succ n ih27 =>
      intro x1 x2 x4 x5 x7 S H locs ls hP hS hl hf
      have hf : bX6_asked_27 k12 (lp (fun k q => bX6_asked_27 k12 k q.1 q.2.1 q.2.2.1 q.2.2.2.1 q.2.2.2.2.1 q.2.2.2.2.2) n) x1 x2 x4 x5 x7 S = some (r, S') := hf
      generalize lp (fun k q => bX6_asked_27 k12 k q.1 q.2.1 q.2.2.1 q.2.2.2.1 q.2.2.2.2.1 q.2.2.2.2.2) n = k27 at hf ih27
      unfold bX6_asked_27 at hf
      refine lv_iload hx hb dX6_asked_27 (lv_at hl 5 rfl) ?_
      refine lv_bipush (v := 8) hx hb dX6_asked_29 (by decide) ?_
      refine lv_icmp_ge (tgt := 96) hx hb dX6_asked_31 (by decide) (fun c54 => ?_) (fun c54 => ?_)
      · have hf := (if_pos c54).symm.trans hf
        refine lv_aload_n hx hb dX6_asked_96 rfl (lv_at hl 0 rfl) ?_
        refine gfX6_19 hx hb hts (fun _ h => List.mem_cons_of_mem _ (List.mem_append_right _ h)) hown hK hP (hts (Cond.fieldLink RX6 58 "WhoSpeaksModel" "sure" "[I") (List.mem_of_getElem? (i := 2) rfl)) dX6_asked_97 ?_
        refine lv_iload hx hb dX6_asked_100 (lv_at hl 3 rfl) ?_
        obtain ⟨c55, hf⟩ := ck_some hf
        refine alM15 hx hb hK hP c55 dX6_asked_102 ?_
        obtain ⟨r56, h57, hf⟩ := ob1_some hf
        refine kSi (As := [.int (ma S 15 x4.toNatClampNeg)]) (rest := []) ⟨hx, hb, hml, hown, hts⟩ (okX6_size l D cy A (wM cy ad S) (ma S 15 x4.toNatClampNeg) r56 h57) (va_cwS 1 hts gX6_asked_X6_size rfl rfl rfl (by decide +kernel) ⟨Nat.le_of_ble_eq_true rfl, Nat.le_of_ble_eq_true rfl⟩) hK hP hS rfl hl.1 rfl (Nat.le_of_ble_eq_true rfl) dX6_asked_103 (fun H locs hP hS => ?_)
        refine lv_iconst (v := 1) hx hb dX6_asked_106 (by decide) ?_
        refine lv_icmp_le (tgt := 129) hx hb dX6_asked_107 (by decide) (fun c58 => ?_) (fun c58 => ?_)
        · have hf := (if_pos c58).symm.trans hf
          refine lv_iinc (v := (x4 + 1)) (lv' := [(4, .int (x4 + 1)), (0, .ref (ad 0)), (1, .int x1), (2, .long x2), (5, .long x5), (7, .int x7)]) hx hb dX6_asked_129 hl (k := 3) rfl rfl (by decide) rfl (fun ls hl => ?_)
          refine lv_goto (tgt := 12) hx hb dX6_asked_132 (by decide) ?_
          exact ih12 (x1) (x2) ((x4 + 1)) S H locs ls hP hS (lv_sub hl [1, 2, 3, 0] rfl) hf
        · have hf := (if_neg c58).symm.trans hf
          refine lv_iload_n hx hb dX6_asked_110 rfl (lv_at hl 1 rfl) ?_
          refine lv_bipush (v := (-9)) hx hb dX6_asked_111 (by decide) ?_
          refine lv_icmp_eq (tgt := 123) hx hb dX6_asked_113 (by decide) (fun c59 => ?_) (fun c59 => ?_)
          · have hf := (if_pos c59).symm.trans hf
            refine lv_iload hx hb dX6_asked_123 (lv_at hl 3 rfl) ?_
            refine lv_istore_n (lv' := [(1, .int x4), (0, .ref (ad 0)), (2, .long x2), (4, .int x4), (5, .long x5), (7, .int x7)]) hx hb dX6_asked_125 rfl hl (by decide) rfl (fun ls hl => ?_)
            refine lv_lload hx hb dX6_asked_126 (lv_at hl 4 rfl) ?_
            refine lv_lstore_n (lv' := [(2, .long x5), (1, .int x4), (0, .ref (ad 0)), (4, .int x4), (5, .long x5), (7, .int x7)]) hx hb dX6_asked_128 rfl hl (by decide) rfl (fun ls hl => ?_)
            refine lv_iinc (v := (x4 + 1)) (lv' := [(4, .int (x4 + 1)), (2, .long x5), (1, .int x4), (0, .ref (ad 0)), (5, .long x5), (7, .int x7)]) hx hb dX6_asked_129 hl (k := 3) rfl rfl (by decide) rfl (fun ls hl => ?_)
            refine lv_goto (tgt := 12) hx hb dX6_asked_132 (by decide) ?_
            exact ih12 (x4) (x5) ((x4 + 1)) S H locs ls hP hS (lv_sub hl [3, 2, 1, 0] rfl) hf
          · have hf := (if_neg c59).symm.trans hf
            refine lv_lload hx hb dX6_asked_116 (lv_at hl 4 rfl) ?_
            refine lv_lload_n hx hb dX6_asked_118 rfl (lv_at hl 2 rfl) ?_
            refine W.lcmp hx hb dX6_asked_119 ?_
            refine lv_if_ge (tgt := 129) hx hb dX6_asked_120 (by decide) (fun c60 => ?_) (fun c60 => ?_)
            · have hf := (if_pos c60).symm.trans hf
              refine lv_iinc (v := (x4 + 1)) (lv' := [(4, .int (x4 + 1)), (0, .ref (ad 0)), (1, .int x1), (2, .long x2), (5, .long x5), (7, .int x7)]) hx hb dX6_asked_129 hl (k := 3) rfl rfl (by decide) rfl (fun ls hl => ?_)
              refine lv_goto (tgt := 12) hx hb dX6_asked_132 (by decide) ?_
              exact ih12 (x1) (x2) ((x4 + 1)) S H locs ls hP hS (lv_sub hl [1, 2, 3, 0] rfl) hf
            · have hf := (if_neg c60).symm.trans hf
              refine lv_iload hx hb dX6_asked_123 (lv_at hl 3 rfl) ?_
              refine lv_istore_n (lv' := [(1, .int x4), (0, .ref (ad 0)), (2, .long x2), (4, .int x4), (5, .long x5), (7, .int x7)]) hx hb dX6_asked_125 rfl hl (by decide) rfl (fun ls hl => ?_)
              refine lv_lload hx hb dX6_asked_126 (lv_at hl 4 rfl) ?_
              refine lv_lstore_n (lv' := [(2, .long x5), (1, .int x4), (0, .ref (ad 0)), (4, .int x4), (5, .long x5), (7, .int x7)]) hx hb dX6_asked_128 rfl hl (by decide) rfl (fun ls hl => ?_)
              refine lv_iinc (v := (x4 + 1)) (lv' := [(4, .int (x4 + 1)), (2, .long x5), (1, .int x4), (0, .ref (ad 0)), (5, .long x5), (7, .int x7)]) hx hb dX6_asked_129 hl (k := 3) rfl rfl (by decide) rfl (fun ls hl => ?_)
              refine lv_goto (tgt := 12) hx hb dX6_asked_132 (by decide) ?_
              exact ih12 (x4) (x5) ((x4 + 1)) S H locs ls hP hS (lv_sub hl [3, 2, 1, 0] rfl) hf
      · have hf := (if_neg c54).symm.trans hf
        refine lv_aload_n hx hb dX6_asked_34 rfl (lv_at hl 0 rfl) ?_
        refine gfX6_19 hx hb hts (fun _ h => List.mem_cons_of_mem _ (List.mem_append_right _ h)) hown hK hP (hts (Cond.fieldLink RX6 58 "WhoSpeaksModel" "sure" "[I") (List.mem_of_getElem? (i := 2) rfl)) dX6_asked_35 ?_
        refine lv_iload hx hb dX6_asked_38 (lv_at hl 3 rfl) ?_
        obtain ⟨c61, hf⟩ := ck_some hf
        refine alM15 hx hb hK hP c61 dX6_asked_40 ?_
        refine lv_iload hx hb dX6_asked_41 (lv_at hl 5 rfl) ?_
        refine kSi (As := [.int (ma S 15 x4.toNatClampNeg), .int x7]) (rest := []) ⟨hx, hb, hml, hown, hts⟩ (okX6_has l D cy A (wM cy ad S) (ma S 15 x4.toNatClampNeg) x7 _ rfl) (va_cwS 2 hts gX6_asked_X6_has rfl rfl rfl (by decide +kernel) ⟨Nat.le_of_ble_eq_true rfl, Nat.le_of_ble_eq_true rfl⟩) hK hP hS rfl hl.1 rfl (Nat.le_of_ble_eq_true rfl) dX6_asked_43 (fun H locs hP hS => ?_)
        refine lv_if_eq (tgt := 67) hx hb dX6_asked_46 (by decide) (fun c63 => ?_) (fun c63 => ?_)
        · have hf := (if_pos c63).symm.trans hf
          refine lv_iconst (v := 0) hx hb dX6_asked_67 (by decide) ?_
          exact K68 k12 ih12 k27 ih27 (x1) (x2) (x4) (x5) (x7) (false) S H locs ls hP hS (lv_sub hl [0, 1, 2, 3, 4, 5] rfl) hf
        · have hf := (if_neg c63).symm.trans hf
          refine lv_aload_n hx hb dX6_asked_49 rfl (lv_at hl 0 rfl) ?_
          refine lv_iload hx hb dX6_asked_50 (lv_at hl 3 rfl) ?_
          refine lv_iload hx hb dX6_asked_52 (lv_at hl 5 rfl) ?_
          obtain ⟨r64, h65, hf⟩ := ob1_some hf
          refine kVl (As := [.int x4, .int x7]) (rest := []) ⟨hx, hb, hml, hown, hts⟩ (okX6_waysWith l D cy ad A hD x4 x7 S r64 h65) (cwV 2 hts gX6_asked_X6_waysWith rfl rfl rfl (by decide +kernel) ⟨Nat.le_of_ble_eq_true rfl, Nat.le_of_ble_eq_true rfl⟩) hK hP hS (va_recv hK.1 hP (ci := 6) (q := (RX6, TX6, 21)) rfl (atM0 cy ad S)) rfl hl.1 rfl (Nat.le_of_ble_eq_true rfl) dX6_asked_54 (fun H locs hP hS => ?_)
          refine lv_lload hx hb dX6_asked_57 (lv_at hl 4 rfl) ?_
          refine W.lcmp hx hb dX6_asked_59 ?_
          refine lv_if_le (tgt := 67) hx hb dX6_asked_60 (by decide) (fun c66 => ?_) (fun c66 => ?_)
          · have hf := (if_pos c66).symm.trans hf
            refine lv_iconst (v := 0) hx hb dX6_asked_67 (by decide) ?_
            exact K68 k12 ih12 k27 ih27 (x1) (x2) (x4) (x5) (x7) (false) S H locs ls hP hS (lv_sub hl [0, 1, 2, 3, 4, 5] rfl) hf
          · have hf := (if_neg c66).symm.trans hf
            refine lv_iconst (v := 1) hx hb dX6_asked_63 (by decide) ?_
            refine lv_goto (tgt := 68) hx hb dX6_asked_64 (by decide) ?_
            exact K68 k12 ih12 k27 ih27 (x1) (x2) (x4) (x5) (x7) (true) S H locs ls hP hS (lv_sub hl [0, 1, 2, 3, 4, 5] rfl) hf
  have K12 : ∀ (n : Nat), ∀ (x1 : Int32) (x2 : Int64) (x4 : Int32) (S : MS) (H : Heap) (locs : List Loc) (ls : Array Slot), va_P D vwCl (wM cy ad S) H → va_S A s.heap H locs → lv_has ls 9 [(0, .ref (ad 0)), (1, .int x1), (2, .long x2), (4, .int x4)] → lp (fun k q => bX6_asked_12  k q.1 q.2.1 q.2.2.1 q.2.2.2) n (x1, x2, x4, S) = some (r, S') → W p l e (headSpec wsX6_asked { frames := 9, cells := 0, slots := 0, locals := 199 }).room s m args below meth c H locs 0 0 (MQ below (QcI D A r (wM cy ad S')) args s 0 0 A) (F0 m 12 ls []) := by
    intro  n
    induction n with
    | zero =>
      intro x1 x2 x4 S H locs ls hP hS hl hf
      cases hf
    | succ n ih12 =>
      intro x1 x2 x4 S H locs ls hP hS hl hf
      have hf : bX6_asked_12  (lp (fun k q => bX6_asked_12  k q.1 q.2.1 q.2.2.1 q.2.2.2) n) x1 x2 x4 S = some (r, S') := hf
      generalize lp (fun k q => bX6_asked_12  k q.1 q.2.1 q.2.2.1 q.2.2.2) n = k12 at hf ih12
      unfold bX6_asked_12 at hf
      refine lv_iload hx hb dX6_asked_12 (lv_at hl 3 rfl) ?_
      refine lv_aload_n hx hb dX6_asked_14 rfl (lv_at hl 0 rfl) ?_
      refine gfX6_5 hx hb hts (fun _ h => List.mem_cons_of_mem _ (List.mem_append_right _ h)) hown hK hP (hts (Cond.fieldLink RX6 68 "WhoSpeaksModel" "paragraphs" "I") (List.mem_of_getElem? (i := 1) rfl)) dX6_asked_15 ?_
      refine lv_icmp_ge (tgt := 135) hx hb dX6_asked_18 (by decide) (fun c67 => ?_) (fun c67 => ?_)
      · have hf := (if_pos c67).symm.trans hf
        refine lv_iload_n hx hb dX6_asked_135 rfl (lv_at hl 1 rfl) ?_
        obtain ⟨he, hS9⟩ := Prod.mk.inj (Option.some.inj hf)
        subst hS9
        exact rI hx hb hr hP hS he hlocks dX6_asked_136
      · have hf := (if_neg c67).symm.trans hf
        refine lv_lconst (v := 0) hx hb dX6_asked_21 (by decide) ?_
        refine lv_lstore (lv' := [(5, .long 0), (0, .ref (ad 0)), (1, .int x1), (2, .long x2), (4, .int x4)]) hx hb dX6_asked_22 hl (by decide) rfl (fun ls hl => ?_)
        refine lv_iconst (v := 0) hx hb dX6_asked_24 (by decide) ?_
        refine lv_istore (lv' := [(7, .int 0), (5, .long 0), (0, .ref (ad 0)), (1, .int x1), (2, .long x2), (4, .int x4)]) hx hb dX6_asked_25 hl (by decide) rfl (fun ls hl => ?_)
        exact K27 k12 ih12 FU (x1) (x2) (x4) (0) (0) S H locs ls hP hS (lv_sub hl [2, 3, 4, 5, 1, 0] rfl) hf
  unfold fX6_asked at hf
  suffices hG : ∀ (H : Heap) (locs : List Loc), va_P D vwCl (wM cy ad S) H → va_S A s.heap H locs → W p l e (headSpec wsX6_asked { frames := 9, cells := 0, slots := 0, locals := 199 }).room s m args below meth c H locs 0 0 (MQ below (QcI D A r (wM cy ad S')) args s 0 0 A) (F0 m 0 ls []) by exact hG s.heap [] hP va_S.rf
  clear hP hS
  intro H locs hP hS
  refine lv_aload_n hx hb dX6_asked_0 rfl (lv_at hl 0 rfl) ?_
  obtain ⟨S69, h68, hf⟩ := ob1_some hf
  refine kVv (As := []) (rest := []) ⟨hx, hb, hml, hown, hts⟩ (okX6_findSure l D cy ad A hD  S S69 h68) (cwV 0 hts gX6_asked_X6_findSure rfl rfl rfl (by decide +kernel) ⟨Nat.le_of_ble_eq_true rfl, Nat.le_of_ble_eq_true rfl⟩) hK hP hS (va_recv hK.1 hP (ci := 6) (q := (RX6, TX6, 21)) rfl (atM0 cy ad S)) rfl hl.1 rfl (Nat.le_of_ble_eq_true rfl) dX6_asked_1 (fun H locs hP hS => ?_)
  refine lv_bipush (v := (-9)) hx hb dX6_asked_4 (by decide) ?_
  refine lv_istore_n (lv' := [(1, .int (-9)), (0, .ref (ad 0))]) hx hb dX6_asked_6 rfl hl (by decide) rfl (fun ls hl => ?_)
  refine lv_lconst (v := 0) hx hb dX6_asked_7 (by decide) ?_
  refine lv_lstore_n (lv' := [(2, .long 0), (1, .int (-9)), (0, .ref (ad 0))]) hx hb dX6_asked_8 rfl hl (by decide) rfl (fun ls hl => ?_)
  refine lv_iconst (v := 0) hx hb dX6_asked_9 (by decide) ?_
  refine lv_istore (lv' := [(4, .int 0), (2, .long 0), (1, .int (-9)), (0, .ref (ad 0))]) hx hb dX6_asked_10 hl (by decide) rfl (fun ls hl => ?_)
  exact K12  FU ((-9)) (0) (0) S69 H locs ls hP hS (lv_sub hl [3, 2, 1, 0] rfl) hf

def fX6_beginsRun (p0 : Int32) (S : MS) : Option Bool := (ob1 (fX6_speaks p0 S) (fun r4 => (if (bi r4) = 0 then (some false) else (if p0 = 0 then (some true) else (ob1 (fX6_speaks (p0 - 1) S) (fun r8 => (if (bi r8) = 0 then (some true) else (some false))))))))
set_option maxHeartbeats 4000000 in
set_option maxRecDepth 100000 in
theorem okX6_beginsRun (l : Launch) (D : va_G) (cy : Nat → ClassId) (ad : Nat → Nat) (A : Nat → Prop) (hD : ∀ S, va_D A (wM cy ad S)) (p0 : Int32) (S : MS) (r : Bool) (hf : fX6_beginsRun p0 S = some r) : MI l yX6_beginsRun wsX6_beginsRun { frames := 2, cells := 0, slots := 0, locals := 45 } D cy A (wM cy ad S) [.ref (ad 0), .int p0] (bi r) (wM cy ad S) := by
  refine Met.ofW (cc := cX6_beginsRun) (maxL := 2) (ret := (some .boolean)) (by decide) rfl ?_
  intro p e s m args below meth c s₁ B hml hv
  obtain ⟨ha, hP, hK⟩ := hv
  have hx := B.exec
  have hb := B.bytes
  have hr := B.returns
  have hts := atoms_spec (ws := wsX6_beginsRun) B.pre
  have hown : s.vm.findClass RX6 = some m.cls := findClass_of_methodNamed B.named
  have hlocks := B.notSynchronized
  have hS : va_S A s.heap s.heap [] := va_S.rf
  obtain ⟨ls, hl, he0⟩ := ent (m := m) ha (n := 2) (Nat.le_of_ble_eq_true rfl)
  refine W.eq he0 ?_
  have hl : lv_has ls 2 [(0, .ref (ad 0)), (1, .int p0)] := hl
  unfold fX6_beginsRun at hf
  suffices hG : ∀ (H : Heap) (locs : List Loc), va_P D vwCl (wM cy ad S) H → va_S A s.heap H locs → W p l e (headSpec wsX6_beginsRun { frames := 2, cells := 0, slots := 0, locals := 45 }).room s m args below meth c H locs 0 0 (MQ below (QcI D A (bi r) (wM cy ad S)) args s 0 0 A) (F0 m 0 ls []) by exact hG s.heap [] hP va_S.rf
  clear hP hS
  intro H locs hP hS
  refine lv_aload_n hx hb dX6_beginsRun_0 rfl (lv_at hl 0 rfl) ?_
  refine lv_iload_n hx hb dX6_beginsRun_1 rfl (lv_at hl 1 rfl) ?_
  obtain ⟨r4, h5, hf⟩ := ob1_some hf
  refine kVi (As := [.int p0]) (rest := []) ⟨hx, hb, hml, hown, hts⟩ (okX6_speaks l D cy ad A hD p0 S r4 h5) (cwV 1 hts gX6_beginsRun_X6_speaks rfl rfl rfl (by decide +kernel) ⟨Nat.le_of_ble_eq_true rfl, Nat.le_of_ble_eq_true rfl⟩) hK hP hS (va_recv hK.1 hP (ci := 6) (q := (RX6, TX6, 21)) rfl (atM0 cy ad S)) rfl hl.1 rfl (Nat.le_of_ble_eq_true rfl) dX6_beginsRun_2 (fun H locs hP hS => ?_)
  refine lv_if_eq (tgt := 26) hx hb dX6_beginsRun_5 (by decide) (fun c6 => ?_) (fun c6 => ?_)
  · have hf := (if_pos c6).symm.trans hf
    refine lv_iconst (v := 0) hx hb dX6_beginsRun_26 (by decide) ?_
    have he := Option.some.inj hf
    exact rZ hx hb hr (bi_nar false) hP hS (congrArg bi he) hlocks dX6_beginsRun_27
  · have hf := (if_neg c6).symm.trans hf
    refine lv_iload_n hx hb dX6_beginsRun_8 rfl (lv_at hl 1 rfl) ?_
    refine lv_if_eq (tgt := 22) hx hb dX6_beginsRun_9 (by decide) (fun c7 => ?_) (fun c7 => ?_)
    · have hf := (if_pos c7).symm.trans hf
      refine lv_iconst (v := 1) hx hb dX6_beginsRun_22 (by decide) ?_
      refine lv_goto (tgt := 27) hx hb dX6_beginsRun_23 (by decide) ?_
      have he := Option.some.inj hf
      exact rZ hx hb hr (bi_nar true) hP hS (congrArg bi he) hlocks dX6_beginsRun_27
    · have hf := (if_neg c7).symm.trans hf
      refine lv_aload_n hx hb dX6_beginsRun_12 rfl (lv_at hl 0 rfl) ?_
      refine lv_iload_n hx hb dX6_beginsRun_13 rfl (lv_at hl 1 rfl) ?_
      refine lv_iconst (v := 1) hx hb dX6_beginsRun_14 (by decide) ?_
      refine lv_isub hx hb dX6_beginsRun_15 ?_
      obtain ⟨r8, h9, hf⟩ := ob1_some hf
      refine kVi (As := [.int (p0 - 1)]) (rest := []) ⟨hx, hb, hml, hown, hts⟩ (okX6_speaks l D cy ad A hD (p0 - 1) S r8 h9) (cwV 1 hts gX6_beginsRun_X6_speaks rfl rfl rfl (by decide +kernel) ⟨Nat.le_of_ble_eq_true rfl, Nat.le_of_ble_eq_true rfl⟩) hK hP hS (va_recv hK.1 hP (ci := 6) (q := (RX6, TX6, 21)) rfl (atM0 cy ad S)) rfl hl.1 rfl (Nat.le_of_ble_eq_true rfl) dX6_beginsRun_16 (fun H locs hP hS => ?_)
      refine lv_if_ne (tgt := 26) hx hb dX6_beginsRun_19 (by decide) (fun c10 => ?_) (fun c10 => ?_)
      · have hf := (if_neg c10).symm.trans hf
        refine lv_iconst (v := 0) hx hb dX6_beginsRun_26 (by decide) ?_
        have he := Option.some.inj hf
        exact rZ hx hb hr (bi_nar false) hP hS (congrArg bi he) hlocks dX6_beginsRun_27
      · have hf := (if_pos c10).symm.trans hf
        refine lv_iconst (v := 1) hx hb dX6_beginsRun_22 (by decide) ?_
        refine lv_goto (tgt := 27) hx hb dX6_beginsRun_23 (by decide) ?_
        have he := Option.some.inj hf
        exact rZ hx hb hr (bi_nar true) hP hS (congrArg bi he) hlocks dX6_beginsRun_27

def bX6_runs_4  (k4 : Int32 × Int32 × MS → Option Int32) (x1 : Int32) (x2 : Int32) (S : MS) : Option Int32 := (if (mi S 3) ≤ x2 then (some x1) else (ob1 (fX6_beginsRun x2 S) (fun r14 => (if (bi r14) = 0 then (bnd ((x1 + 0)) (fun y17 => (k4 (y17, (x2 + 1), S)))) else (bnd ((x1 + 1)) (fun y18 => (k4 (y18, (x2 + 1), S))))))))
def fX6_runs  (S : MS) : Option Int32 := (lp (fun k q => bX6_runs_4  k q.1 q.2.1 q.2.2) FU (0, 0, S))
set_option maxHeartbeats 4000000 in
set_option maxRecDepth 100000 in
theorem okX6_runs (l : Launch) (D : va_G) (cy : Nat → ClassId) (ad : Nat → Nat) (A : Nat → Prop) (hD : ∀ S, va_D A (wM cy ad S))  (S : MS) (r : Int32) (hf : fX6_runs  S = some r) : MI l yX6_runs wsX6_runs { frames := 3, cells := 0, slots := 0, locals := 66 } D cy A (wM cy ad S) [.ref (ad 0)] r (wM cy ad S) := by
  refine Met.ofW (cc := cX6_runs) (maxL := 3) (ret := (some .int)) (by decide) rfl ?_
  intro p e s m args below meth c s₁ B hml hv
  obtain ⟨ha, hP, hK⟩ := hv
  have hx := B.exec
  have hb := B.bytes
  have hr := B.returns
  have hts := atoms_spec (ws := wsX6_runs) B.pre
  have hown : s.vm.findClass RX6 = some m.cls := findClass_of_methodNamed B.named
  have hlocks := B.notSynchronized
  have hS : va_S A s.heap s.heap [] := va_S.rf
  obtain ⟨ls, hl, he0⟩ := ent (m := m) ha (n := 3) (Nat.le_of_ble_eq_true rfl)
  refine W.eq he0 ?_
  have hl : lv_has ls 3 [(0, .ref (ad 0))] := hl
  have K4 : ∀ (n : Nat), ∀ (x1 : Int32) (x2 : Int32) (S : MS) (H : Heap) (locs : List Loc) (ls : Array Slot), va_P D vwCl (wM cy ad S) H → va_S A s.heap H locs → lv_has ls 3 [(0, .ref (ad 0)), (1, .int x1), (2, .int x2)] → lp (fun k q => bX6_runs_4  k q.1 q.2.1 q.2.2) n (x1, x2, S) = some r → W p l e (headSpec wsX6_runs { frames := 3, cells := 0, slots := 0, locals := 66 }).room s m args below meth c H locs 0 0 (MQ below (QcI D A r (wM cy ad S)) args s 0 0 A) (F0 m 4 ls []) := by
    intro  n
    induction n with
    | zero =>
      intro x1 x2 S H locs ls hP hS hl hf
      cases hf
    | succ n ih4 =>
      intro x1 x2 S H locs ls hP hS hl hf
      have hf : bX6_runs_4  (lp (fun k q => bX6_runs_4  k q.1 q.2.1 q.2.2) n) x1 x2 S = some r := hf
      generalize lp (fun k q => bX6_runs_4  k q.1 q.2.1 q.2.2) n = k4 at hf ih4
      unfold bX6_runs_4 at hf
      refine lv_iload_n hx hb dX6_runs_4 rfl (lv_at hl 2 rfl) ?_
      refine lv_aload_n hx hb dX6_runs_5 rfl (lv_at hl 0 rfl) ?_
      refine gfX6_5 hx hb hts (fun _ h => List.mem_cons_of_mem _ (List.mem_append_right _ h)) hown hK hP (hts (Cond.fieldLink RX6 68 "WhoSpeaksModel" "paragraphs" "I") (List.mem_of_getElem? (i := 1) rfl)) dX6_runs_6 ?_
      refine lv_icmp_ge (tgt := 34) hx hb dX6_runs_9 (by decide) (fun c13 => ?_) (fun c13 => ?_)
      · have hf := (if_pos c13).symm.trans hf
        refine lv_iload_n hx hb dX6_runs_34 rfl (lv_at hl 1 rfl) ?_
        have he := Option.some.inj hf
        exact rI hx hb hr hP hS he hlocks dX6_runs_35
      · have hf := (if_neg c13).symm.trans hf
        refine lv_iload_n hx hb dX6_runs_12 rfl (lv_at hl 1 rfl) ?_
        refine lv_aload_n hx hb dX6_runs_13 rfl (lv_at hl 0 rfl) ?_
        refine lv_iload_n hx hb dX6_runs_14 rfl (lv_at hl 2 rfl) ?_
        obtain ⟨r14, h15, hf⟩ := ob1_some hf
        refine kVi (As := [.int x2]) (rest := [.int x1]) ⟨hx, hb, hml, hown, hts⟩ (okX6_beginsRun l D cy ad A hD x2 S r14 h15) (cwV 1 hts gX6_runs_X6_beginsRun rfl rfl rfl (by decide +kernel) ⟨Nat.le_of_ble_eq_true rfl, Nat.le_of_ble_eq_true rfl⟩) hK hP hS (va_recv hK.1 hP (ci := 6) (q := (RX6, TX6, 21)) rfl (atM0 cy ad S)) rfl hl.1 rfl (Nat.le_of_ble_eq_true rfl) dX6_runs_15 (fun H locs hP hS => ?_)
        refine lv_if_eq (tgt := 25) hx hb dX6_runs_18 (by decide) (fun c16 => ?_) (fun c16 => ?_)
        · have hf := (if_pos c16).symm.trans hf
          refine lv_iconst (v := 0) hx hb dX6_runs_25 (by decide) ?_
          refine lv_iadd hx hb dX6_runs_26 ?_
          refine lv_topi (fun y17 ey17 => ?_)
          have hf := bnd_of ey17 hf
          refine lv_istore_n (lv' := [(1, .int y17), (0, .ref (ad 0)), (2, .int x2)]) hx hb dX6_runs_27 rfl hl (by decide) rfl (fun ls hl => ?_)
          refine lv_iinc (v := (x2 + 1)) (lv' := [(2, .int (x2 + 1)), (1, .int y17), (0, .ref (ad 0))]) hx hb dX6_runs_28 hl (k := 2) rfl rfl (by decide) rfl (fun ls hl => ?_)
          refine lv_goto (tgt := 4) hx hb dX6_runs_31 (by decide) ?_
          exact ih4 (y17) ((x2 + 1)) S H locs ls hP hS (lv_sub hl [2, 1, 0] rfl) hf
        · have hf := (if_neg c16).symm.trans hf
          refine lv_iconst (v := 1) hx hb dX6_runs_21 (by decide) ?_
          refine lv_goto (tgt := 26) hx hb dX6_runs_22 (by decide) ?_
          refine lv_iadd hx hb dX6_runs_26 ?_
          refine lv_topi (fun y18 ey18 => ?_)
          have hf := bnd_of ey18 hf
          refine lv_istore_n (lv' := [(1, .int y18), (0, .ref (ad 0)), (2, .int x2)]) hx hb dX6_runs_27 rfl hl (by decide) rfl (fun ls hl => ?_)
          refine lv_iinc (v := (x2 + 1)) (lv' := [(2, .int (x2 + 1)), (1, .int y18), (0, .ref (ad 0))]) hx hb dX6_runs_28 hl (k := 2) rfl rfl (by decide) rfl (fun ls hl => ?_)
          refine lv_goto (tgt := 4) hx hb dX6_runs_31 (by decide) ?_
          exact ih4 (y18) ((x2 + 1)) S H locs ls hP hS (lv_sub hl [2, 1, 0] rfl) hf
  unfold fX6_runs at hf
  suffices hG : ∀ (H : Heap) (locs : List Loc), va_P D vwCl (wM cy ad S) H → va_S A s.heap H locs → W p l e (headSpec wsX6_runs { frames := 3, cells := 0, slots := 0, locals := 66 }).room s m args below meth c H locs 0 0 (MQ below (QcI D A r (wM cy ad S)) args s 0 0 A) (F0 m 0 ls []) by exact hG s.heap [] hP va_S.rf
  clear hP hS
  intro H locs hP hS
  refine lv_iconst (v := 0) hx hb dX6_runs_0 (by decide) ?_
  refine lv_istore_n (lv' := [(1, .int 0), (0, .ref (ad 0))]) hx hb dX6_runs_1 rfl hl (by decide) rfl (fun ls hl => ?_)
  refine lv_iconst (v := 0) hx hb dX6_runs_2 (by decide) ?_
  refine lv_istore_n (lv' := [(2, .int 0), (1, .int 0), (0, .ref (ad 0))]) hx hb dX6_runs_3 rfl hl (by decide) rfl (fun ls hl => ?_)
  exact K4  FU (0) (0) S H locs ls hP hS (lv_sub hl [2, 1, 0] rfl) hf

def bX6_run_108  (x2 : Int32) (x3 : Int32) (x4 : Int32) (x5 : Int32) (S : MS) : Option Int32 := (if x2 = 0 then (some x3) else (if x2 = 1 then (some x4) else (ob1 (fX6_size x5) (fun r42 => (some r42)))))
def bX6_run_70  (k70 : Int32 × Int32 × Int32 × Int32 × Int32 × MS → Option Int32) (x2 : Int32) (x3 : Int32) (x4 : Int32) (x5 : Int32) (x6 : Int32) (S : MS) : Option Int32 := (if (mi S 3) ≤ x6 then (bX6_run_108  (x2) (x3) (x4) (x5) S) else (ob1 (fX6_speaks x6 S) (fun r45 => (if (bi r45) = 0 then (bX6_run_108  (x2) (x3) (x4) (x5) S) else (ob1 (fX6_ownOf x6 S) (fun r48 => (bnd ((x5 ||| r48)) (fun y50 => (k70 (x2, x3, (x4 + 1), y50, (x6 + 1), S))))))))))
def bX6_run_41 (k33 : Int32 × Int32 × Int32 × MS → Option Int32) (k41 : Int32 × Int32 × Int32 × MS → Option Int32) (x2 : Int32) (x3 : Int32) (x4 : Int32) (S : MS) : Option Int32 := (ob1 (fX6_beginsRun x3 S) (fun r51 => (if (bi r51) = 0 then (k41 (x2, (x3 + 1), x4, S)) else (k33 (x2, x3, (x4 + (-1)), S)))))
def bX6_run_33  (k33 : Int32 × Int32 × Int32 × MS → Option Int32) (x2 : Int32) (x3 : Int32) (x4 : Int32) (S : MS) : Option Int32 := (if x4 < 0 then (lp (fun k q => bX6_run_70  k q.1 q.2.1 q.2.2.1 q.2.2.2.1 q.2.2.2.2.1 q.2.2.2.2.2) FU (x2, x3, 0, 0, x3, S)) else (lp (fun k q => bX6_run_41 k33 k q.1 q.2.1 q.2.2.1 q.2.2.2) FU (x2, (x3 + 1), x4, S)))
def fX6_run (p0 : Int32) (p1 : Int32) (S : MS) : Option Int32 := (ob1 (fX6_runs  S) (fun r55 => (if (bi (fX6_within p0 0 (r55 - 1))) = 0 then (some (-1)) else (if (bi (fX6_within p1 0 2)) = 0 then (some (-2)) else (lp (fun k q => bX6_run_33  k q.1 q.2.1 q.2.2.1 q.2.2.2) FU (p1, (-1), p0, S))))))
set_option maxHeartbeats 4000000 in
set_option maxRecDepth 100000 in
theorem okX6_run (l : Launch) (D : va_G) (cy : Nat → ClassId) (ad : Nat → Nat) (A : Nat → Prop) (hD : ∀ S, va_D A (wM cy ad S)) (p0 : Int32) (p1 : Int32) (S : MS) (r : Int32) (hf : fX6_run p0 p1 S = some r) : MI l yX6_run wsX6_run { frames := 6, cells := 0, slots := 0, locals := 136 } D cy A (wM cy ad S) [.ref (ad 0), .int p0, .int p1] r (wM cy ad S) := by
  refine Met.ofW (cc := cX6_run) (maxL := 7) (ret := (some .int)) (by decide) rfl ?_
  intro p e s m args below meth c s₁ B hml hv
  obtain ⟨ha, hP, hK⟩ := hv
  have hx := B.exec
  have hb := B.bytes
  have hr := B.returns
  have hts := atoms_spec (ws := wsX6_run) B.pre
  have hown : s.vm.findClass RX6 = some m.cls := findClass_of_methodNamed B.named
  have hlocks := B.notSynchronized
  have hS : va_S A s.heap s.heap [] := va_S.rf
  obtain ⟨ls, hl, he0⟩ := ent (m := m) ha (n := 7) (Nat.le_of_ble_eq_true rfl)
  refine W.eq he0 ?_
  have hl : lv_has ls 7 [(0, .ref (ad 0)), (1, .int p0), (2, .int p1)] := hl
  have K108 : ∀ (x2 : Int32) (x3 : Int32) (x4 : Int32) (x5 : Int32) (S : MS) (H : Heap) (locs : List Loc) (ls : Array Slot), va_P D vwCl (wM cy ad S) H → va_S A s.heap H locs → lv_has ls 7 [(2, .int x2), (3, .int x3), (4, .int x4), (5, .int x5)] → bX6_run_108  x2 x3 x4 x5 S = some r → W p l e (headSpec wsX6_run { frames := 6, cells := 0, slots := 0, locals := 136 }).room s m args below meth c H locs 0 0 (MQ below (QcI D A r (wM cy ad S)) args s 0 0 A) (F0 m 108 ls []) := by
    intro  x2 x3 x4 x5 S H locs ls hP hS hl hf
    unfold bX6_run_108 at hf
    refine lv_iload_n hx hb dX6_run_108 rfl (lv_at hl 0 rfl) ?_
    refine lv_if_ne (tgt := 116) hx hb dX6_run_109 (by decide) (fun c40 => ?_) (fun c40 => ?_)
    · have hf := (if_neg c40).symm.trans hf
      refine lv_iload_n hx hb dX6_run_116 rfl (lv_at hl 0 rfl) ?_
      refine lv_iconst (v := 1) hx hb dX6_run_117 (by decide) ?_
      refine lv_icmp_ne (tgt := 126) hx hb dX6_run_118 (by decide) (fun c41 => ?_) (fun c41 => ?_)
      · have hf := (if_neg c41).symm.trans hf
        refine lv_iload hx hb dX6_run_126 (lv_at hl 3 rfl) ?_
        obtain ⟨r42, h43, hf⟩ := ob1_some hf
        refine kSi (As := [.int x5]) (rest := []) ⟨hx, hb, hml, hown, hts⟩ (okX6_size l D cy A (wM cy ad S) x5 r42 h43) (va_cwS 1 hts gX6_run_X6_size rfl rfl rfl (by decide +kernel) ⟨Nat.le_of_ble_eq_true rfl, Nat.le_of_ble_eq_true rfl⟩) hK hP hS rfl hl.1 rfl (Nat.le_of_ble_eq_true rfl) dX6_run_128 (fun H locs hP hS => ?_)
        have he := Option.some.inj hf
        exact rI hx hb hr hP hS he hlocks dX6_run_131
      · have hf := (if_pos c41).symm.trans hf
        refine lv_iload hx hb dX6_run_121 (lv_at hl 2 rfl) ?_
        refine lv_goto (tgt := 131) hx hb dX6_run_123 (by decide) ?_
        have he := Option.some.inj hf
        exact rI hx hb hr hP hS he hlocks dX6_run_131
    · have hf := (if_pos c40).symm.trans hf
      refine lv_iload_n hx hb dX6_run_112 rfl (lv_at hl 1 rfl) ?_
      refine lv_goto (tgt := 131) hx hb dX6_run_113 (by decide) ?_
      have he := Option.some.inj hf
      exact rI hx hb hr hP hS he hlocks dX6_run_131
  have K70 : ∀ (n : Nat), ∀ (x2 : Int32) (x3 : Int32) (x4 : Int32) (x5 : Int32) (x6 : Int32) (S : MS) (H : Heap) (locs : List Loc) (ls : Array Slot), va_P D vwCl (wM cy ad S) H → va_S A s.heap H locs → lv_has ls 7 [(0, .ref (ad 0)), (2, .int x2), (3, .int x3), (4, .int x4), (5, .int x5), (6, .int x6)] → lp (fun k q => bX6_run_70  k q.1 q.2.1 q.2.2.1 q.2.2.2.1 q.2.2.2.2.1 q.2.2.2.2.2) n (x2, x3, x4, x5, x6, S) = some r → W p l e (headSpec wsX6_run { frames := 6, cells := 0, slots := 0, locals := 136 }).room s m args below meth c H locs 0 0 (MQ below (QcI D A r (wM cy ad S)) args s 0 0 A) (F0 m 70 ls []) := by
    intro  n
    induction n with
    | zero =>
      intro x2 x3 x4 x5 x6 S H locs ls hP hS hl hf
      cases hf
    | succ n ih70 =>
      intro x2 x3 x4 x5 x6 S H locs ls hP hS hl hf
      have hf : bX6_run_70  (lp (fun k q => bX6_run_70  k q.1 q.2.1 q.2.2.1 q.2.2.2.1 q.2.2.2.2.1 q.2.2.2.2.2) n) x2 x3 x4 x5 x6 S = some r := hf
      generalize lp (fun k q => bX6_run_70  k q.1 q.2.1 q.2.2.1 q.2.2.2.1 q.2.2.2.2.1 q.2.2.2.2.2) n = k70 at hf ih70
      unfold bX6_run_70 at hf
      refine lv_iload hx hb dX6_run_70 (lv_at hl 5 rfl) ?_
      refine lv_aload_n hx hb dX6_run_72 rfl (lv_at hl 0 rfl) ?_
      refine gfX6_5 hx hb hts (fun _ h => List.mem_cons_of_mem _ (List.mem_append_right _ h)) hown hK hP (hts (Cond.fieldLink RX6 68 "WhoSpeaksModel" "paragraphs" "I") (List.mem_of_getElem? (i := 1) rfl)) dX6_run_73 ?_
      refine lv_icmp_ge (tgt := 108) hx hb dX6_run_76 (by decide) (fun c44 => ?_) (fun c44 => ?_)
      · have hf := (if_pos c44).symm.trans hf
        exact K108  (x2) (x3) (x4) (x5) S H locs ls hP hS (lv_sub hl [1, 2, 3, 4] rfl) hf
      · have hf := (if_neg c44).symm.trans hf
        refine lv_aload_n hx hb dX6_run_79 rfl (lv_at hl 0 rfl) ?_
        refine lv_iload hx hb dX6_run_80 (lv_at hl 5 rfl) ?_
        obtain ⟨r45, h46, hf⟩ := ob1_some hf
        refine kVi (As := [.int x6]) (rest := []) ⟨hx, hb, hml, hown, hts⟩ (okX6_speaks l D cy ad A hD x6 S r45 h46) (cwV 1 hts gX6_run_X6_speaks rfl rfl rfl (by decide +kernel) ⟨Nat.le_of_ble_eq_true rfl, Nat.le_of_ble_eq_true rfl⟩) hK hP hS (va_recv hK.1 hP (ci := 6) (q := (RX6, TX6, 21)) rfl (atM0 cy ad S)) rfl hl.1 rfl (Nat.le_of_ble_eq_true rfl) dX6_run_82 (fun H locs hP hS => ?_)
        refine lv_if_eq (tgt := 108) hx hb dX6_run_85 (by decide) (fun c47 => ?_) (fun c47 => ?_)
        · have hf := (if_pos c47).symm.trans hf
          exact K108  (x2) (x3) (x4) (x5) S H locs ls hP hS (lv_sub hl [1, 2, 3, 4] rfl) hf
        · have hf := (if_neg c47).symm.trans hf
          refine lv_iinc (v := (x4 + 1)) (lv' := [(4, .int (x4 + 1)), (0, .ref (ad 0)), (2, .int x2), (3, .int x3), (5, .int x5), (6, .int x6)]) hx hb dX6_run_88 hl (k := 3) rfl rfl (by decide) rfl (fun ls hl => ?_)
          refine lv_iload hx hb dX6_run_91 (lv_at hl 4 rfl) ?_
          refine lv_aload_n hx hb dX6_run_93 rfl (lv_at hl 1 rfl) ?_
          refine lv_iload hx hb dX6_run_94 (lv_at hl 5 rfl) ?_
          obtain ⟨r48, h49, hf⟩ := ob1_some hf
          refine kVi (As := [.int x6]) (rest := [.int x5]) ⟨hx, hb, hml, hown, hts⟩ (okX6_ownOf l D cy ad A hD x6 S r48 h49) (cwV 1 hts gX6_run_X6_ownOf rfl rfl rfl (by decide +kernel) ⟨Nat.le_of_ble_eq_true rfl, Nat.le_of_ble_eq_true rfl⟩) hK hP hS (va_recv hK.1 hP (ci := 6) (q := (RX6, TX6, 21)) rfl (atM0 cy ad S)) rfl hl.1 rfl (Nat.le_of_ble_eq_true rfl) dX6_run_96 (fun H locs hP hS => ?_)
          refine lv_ior hx hb dX6_run_99 ?_
          refine lv_topi (fun y50 ey50 => ?_)
          have hf := bnd_of ey50 hf
          refine lv_istore (lv' := [(5, .int y50), (4, .int (x4 + 1)), (0, .ref (ad 0)), (2, .int x2), (3, .int x3), (6, .int x6)]) hx hb dX6_run_100 hl (by decide) rfl (fun ls hl => ?_)
          refine lv_iinc (v := (x6 + 1)) (lv' := [(6, .int (x6 + 1)), (5, .int y50), (4, .int (x4 + 1)), (0, .ref (ad 0)), (2, .int x2), (3, .int x3)]) hx hb dX6_run_102 hl (k := 5) rfl rfl (by decide) rfl (fun ls hl => ?_)
          refine lv_goto (tgt := 70) hx hb dX6_run_105 (by decide) ?_
          exact ih70 (x2) (x3) ((x4 + 1)) (y50) ((x6 + 1)) S H locs ls hP hS (lv_sub hl [3, 4, 5, 2, 1, 0] rfl) hf
  have K41 : ∀ (k33 : Int32 × Int32 × Int32 × MS → Option Int32), (∀ (x2 : Int32) (x3 : Int32) (x4 : Int32) (S : MS) (H : Heap) (locs : List Loc) (ls : Array Slot), va_P D vwCl (wM cy ad S) H → va_S A s.heap H locs → lv_has ls 7 [(0, .ref (ad 0)), (2, .int x2), (3, .int x3), (4, .int x4)] → k33 (x2, x3, x4, S) = some r → W p l e (headSpec wsX6_run { frames := 6, cells := 0, slots := 0, locals := 136 }).room s m args below meth c H locs 0 0 (MQ below (QcI D A r (wM cy ad S)) args s 0 0 A) (F0 m 33 ls [])) → ∀ (n : Nat), ∀ (x2 : Int32) (x3 : Int32) (x4 : Int32) (S : MS) (H : Heap) (locs : List Loc) (ls : Array Slot), va_P D vwCl (wM cy ad S) H → va_S A s.heap H locs → lv_has ls 7 [(0, .ref (ad 0)), (2, .int x2), (3, .int x3), (4, .int x4)] → lp (fun k q => bX6_run_41 k33 k q.1 q.2.1 q.2.2.1 q.2.2.2) n (x2, x3, x4, S) = some r → W p l e (headSpec wsX6_run { frames := 6, cells := 0, slots := 0, locals := 136 }).room s m args below meth c H locs 0 0 (MQ below (QcI D A r (wM cy ad S)) args s 0 0 A) (F0 m 41 ls []) := by
    intro k33 ih33 n
    induction n with
    | zero =>
      intro x2 x3 x4 S H locs ls hP hS hl hf
      cases hf
    | succ n ih41 =>
      intro x2 x3 x4 S H locs ls hP hS hl hf
      have hf : bX6_run_41 k33 (lp (fun k q => bX6_run_41 k33 k q.1 q.2.1 q.2.2.1 q.2.2.2) n) x2 x3 x4 S = some r := hf
      generalize lp (fun k q => bX6_run_41 k33 k q.1 q.2.1 q.2.2.1 q.2.2.2) n = k41 at hf ih41
      unfold bX6_run_41 at hf
      refine lv_aload_n hx hb dX6_run_41 rfl (lv_at hl 0 rfl) ?_
      refine lv_iload_n hx hb dX6_run_42 rfl (lv_at hl 2 rfl) ?_
      obtain ⟨r51, h52, hf⟩ := ob1_some hf
      refine kVi (As := [.int x3]) (rest := []) ⟨hx, hb, hml, hown, hts⟩ (okX6_beginsRun l D cy ad A hD x3 S r51 h52) (cwV 1 hts gX6_run_X6_beginsRun rfl rfl rfl (by decide +kernel) ⟨Nat.le_of_ble_eq_true rfl, Nat.le_of_ble_eq_true rfl⟩) hK hP hS (va_recv hK.1 hP (ci := 6) (q := (RX6, TX6, 21)) rfl (atM0 cy ad S)) rfl hl.1 rfl (Nat.le_of_ble_eq_true rfl) dX6_run_43 (fun H locs hP hS => ?_)
      refine lv_if_ne (tgt := 55) hx hb dX6_run_46 (by decide) (fun c53 => ?_) (fun c53 => ?_)
      · have hf := (if_neg c53).symm.trans hf
        refine lv_iinc (v := (x4 + (-1))) (lv' := [(4, .int (x4 + (-1))), (0, .ref (ad 0)), (2, .int x2), (3, .int x3)]) hx hb dX6_run_55 hl (k := 3) rfl rfl (by decide) rfl (fun ls hl => ?_)
        refine lv_goto (tgt := 33) hx hb dX6_run_58 (by decide) ?_
        exact ih33 (x2) (x3) ((x4 + (-1))) S H locs ls hP hS (lv_sub hl [1, 2, 3, 0] rfl) hf
      · have hf := (if_pos c53).symm.trans hf
        refine lv_iinc (v := (x3 + 1)) (lv' := [(3, .int (x3 + 1)), (0, .ref (ad 0)), (2, .int x2), (4, .int x4)]) hx hb dX6_run_49 hl (k := 2) rfl rfl (by decide) rfl (fun ls hl => ?_)
        refine lv_goto (tgt := 41) hx hb dX6_run_52 (by decide) ?_
        exact ih41 (x2) ((x3 + 1)) (x4) S H locs ls hP hS (lv_sub hl [1, 2, 0, 3] rfl) hf
  have K33 : ∀ (n : Nat), ∀ (x2 : Int32) (x3 : Int32) (x4 : Int32) (S : MS) (H : Heap) (locs : List Loc) (ls : Array Slot), va_P D vwCl (wM cy ad S) H → va_S A s.heap H locs → lv_has ls 7 [(0, .ref (ad 0)), (2, .int x2), (3, .int x3), (4, .int x4)] → lp (fun k q => bX6_run_33  k q.1 q.2.1 q.2.2.1 q.2.2.2) n (x2, x3, x4, S) = some r → W p l e (headSpec wsX6_run { frames := 6, cells := 0, slots := 0, locals := 136 }).room s m args below meth c H locs 0 0 (MQ below (QcI D A r (wM cy ad S)) args s 0 0 A) (F0 m 33 ls []) := by
    intro  n
    induction n with
    | zero =>
      intro x2 x3 x4 S H locs ls hP hS hl hf
      cases hf
    | succ n ih33 =>
      intro x2 x3 x4 S H locs ls hP hS hl hf
      have hf : bX6_run_33  (lp (fun k q => bX6_run_33  k q.1 q.2.1 q.2.2.1 q.2.2.2) n) x2 x3 x4 S = some r := hf
      generalize lp (fun k q => bX6_run_33  k q.1 q.2.1 q.2.2.1 q.2.2.2) n = k33 at hf ih33
      unfold bX6_run_33 at hf
      refine lv_iload hx hb dX6_run_33 (lv_at hl 3 rfl) ?_
      refine lv_if_lt (tgt := 61) hx hb dX6_run_35 (by decide) (fun c54 => ?_) (fun c54 => ?_)
      · have hf := (if_pos c54).symm.trans hf
        refine lv_iconst (v := 0) hx hb dX6_run_61 (by decide) ?_
        refine lv_istore (lv' := [(4, .int 0), (0, .ref (ad 0)), (2, .int x2), (3, .int x3)]) hx hb dX6_run_62 hl (by decide) rfl (fun ls hl => ?_)
        refine lv_iconst (v := 0) hx hb dX6_run_64 (by decide) ?_
        refine lv_istore (lv' := [(5, .int 0), (4, .int 0), (0, .ref (ad 0)), (2, .int x2), (3, .int x3)]) hx hb dX6_run_65 hl (by decide) rfl (fun ls hl => ?_)
        refine lv_iload_n hx hb dX6_run_67 rfl (lv_at hl 4 rfl) ?_
        refine lv_istore (lv' := [(6, .int x3), (5, .int 0), (4, .int 0), (0, .ref (ad 0)), (2, .int x2), (3, .int x3)]) hx hb dX6_run_68 hl (by decide) rfl (fun ls hl => ?_)
        exact K70  FU (x2) (x3) (0) (0) (x3) S H locs ls hP hS (lv_sub hl [3, 4, 5, 2, 1, 0] rfl) hf
      · have hf := (if_neg c54).symm.trans hf
        refine lv_iinc (v := (x3 + 1)) (lv' := [(3, .int (x3 + 1)), (0, .ref (ad 0)), (2, .int x2), (4, .int x4)]) hx hb dX6_run_38 hl (k := 2) rfl rfl (by decide) rfl (fun ls hl => ?_)
        exact K41 k33 ih33 FU (x2) ((x3 + 1)) (x4) S H locs ls hP hS (lv_sub hl [1, 2, 0, 3] rfl) hf
  unfold fX6_run at hf
  suffices hG : ∀ (H : Heap) (locs : List Loc), va_P D vwCl (wM cy ad S) H → va_S A s.heap H locs → W p l e (headSpec wsX6_run { frames := 6, cells := 0, slots := 0, locals := 136 }).room s m args below meth c H locs 0 0 (MQ below (QcI D A r (wM cy ad S)) args s 0 0 A) (F0 m 0 ls []) by exact hG s.heap [] hP va_S.rf
  clear hP hS
  intro H locs hP hS
  refine lv_iload_n hx hb dX6_run_0 rfl (lv_at hl 1 rfl) ?_
  refine lv_iconst (v := 0) hx hb dX6_run_1 (by decide) ?_
  refine lv_aload_n hx hb dX6_run_2 rfl (lv_at hl 0 rfl) ?_
  obtain ⟨r55, h56, hf⟩ := ob1_some hf
  refine kVi (As := []) (rest := [.int 0, .int p0]) ⟨hx, hb, hml, hown, hts⟩ (okX6_runs l D cy ad A hD  S r55 h56) (cwV 0 hts gX6_run_X6_runs rfl rfl rfl (by decide +kernel) ⟨Nat.le_of_ble_eq_true rfl, Nat.le_of_ble_eq_true rfl⟩) hK hP hS (va_recv hK.1 hP (ci := 6) (q := (RX6, TX6, 21)) rfl (atM0 cy ad S)) rfl hl.1 rfl (Nat.le_of_ble_eq_true rfl) dX6_run_3 (fun H locs hP hS => ?_)
  refine lv_iconst (v := 1) hx hb dX6_run_6 (by decide) ?_
  refine lv_isub hx hb dX6_run_7 ?_
  refine kSi (As := [.int p0, .int 0, .int (r55 - 1)]) (rest := []) ⟨hx, hb, hml, hown, hts⟩ (okX6_within l D cy A (wM cy ad S) p0 0 (r55 - 1) _ rfl) (va_cwS 3 hts gX6_run_X6_within rfl rfl rfl (by decide +kernel) ⟨Nat.le_of_ble_eq_true rfl, Nat.le_of_ble_eq_true rfl⟩) hK hP hS rfl hl.1 rfl (Nat.le_of_ble_eq_true rfl) dX6_run_8 (fun H locs hP hS => ?_)
  refine lv_if_ne (tgt := 16) hx hb dX6_run_11 (by decide) (fun c58 => ?_) (fun c58 => ?_)
  · have hf := (if_neg c58).symm.trans hf
    refine lv_iload_n hx hb dX6_run_16 rfl (lv_at hl 2 rfl) ?_
    refine lv_iconst (v := 0) hx hb dX6_run_17 (by decide) ?_
    refine lv_iconst (v := 2) hx hb dX6_run_18 (by decide) ?_
    refine kSi (As := [.int p1, .int 0, .int 2]) (rest := []) ⟨hx, hb, hml, hown, hts⟩ (okX6_within l D cy A (wM cy ad S) p1 0 2 _ rfl) (va_cwS 3 hts gX6_run_X6_within rfl rfl rfl (by decide +kernel) ⟨Nat.le_of_ble_eq_true rfl, Nat.le_of_ble_eq_true rfl⟩) hK hP hS rfl hl.1 rfl (Nat.le_of_ble_eq_true rfl) dX6_run_19 (fun H locs hP hS => ?_)
    refine lv_if_ne (tgt := 28) hx hb dX6_run_22 (by decide) (fun c60 => ?_) (fun c60 => ?_)
    · have hf := (if_neg c60).symm.trans hf
      refine lv_iconst (v := (-1)) hx hb dX6_run_28 (by decide) ?_
      refine lv_istore_n (lv' := [(3, .int (-1)), (0, .ref (ad 0)), (1, .int p0), (2, .int p1)]) hx hb dX6_run_29 rfl hl (by decide) rfl (fun ls hl => ?_)
      refine lv_iload_n hx hb dX6_run_30 rfl (lv_at hl 2 rfl) ?_
      refine lv_istore (lv' := [(4, .int p0), (3, .int (-1)), (0, .ref (ad 0)), (1, .int p0), (2, .int p1)]) hx hb dX6_run_31 hl (by decide) rfl (fun ls hl => ?_)
      exact K33  FU (p1) ((-1)) (p0) S H locs ls hP hS (lv_sub hl [2, 4, 1, 0] rfl) hf
    · have hf := (if_pos c60).symm.trans hf
      refine lv_bipush (v := (-2)) hx hb dX6_run_25 (by decide) ?_
      have he := Option.some.inj hf
      exact rI hx hb hr hP hS he hlocks dX6_run_27
  · have hf := (if_pos c58).symm.trans hf
    refine lv_iconst (v := (-1)) hx hb dX6_run_14 (by decide) ?_
    have he := Option.some.inj hf
    exact rI hx hb hr hP hS he hlocks dX6_run_15

def bX6_manyHad_5  (k5 : Int32 × Bool × Int32 × Int32 × MS → Option Int32) (x1 : Int32) (x2 : Bool) (x3 : Int32) (x4 : Int32) (S : MS) : Option Int32 := (if (mi S 3) ≤ x4 then (some x3) else (ck x4 16 (if (bi (fX6_has (ma S 15 x4.toNatClampNeg) x1)) = 0 then (bnd ((x3 + 0)) (fun y35 => (k5 (x1, x2, y35, (x4 + 1), S)))) else (if (bi x2) = 0 then (bnd ((x3 + 1)) (fun y37 => (k5 (x1, x2, y37, (x4 + 1), S)))) else (ck x4 16 (ob1 (fX6_size (ma S 15 x4.toNatClampNeg)) (fun r39 => (if r39 = 1 then (bnd ((x3 + 1)) (fun y43 => (k5 (x1, x2, y43, (x4 + 1), S)))) else (bnd ((x3 + 0)) (fun y42 => (k5 (x1, x2, y42, (x4 + 1), S))))))))))))
def fX6_manyHad (p0 : Int32) (p1 : Bool) (S : MS) : Option Int32 := (lp (fun k q => bX6_manyHad_5  k q.1 q.2.1 q.2.2.1 q.2.2.2.1 q.2.2.2.2) FU (p0, p1, 0, 0, S))
set_option maxHeartbeats 4000000 in
set_option maxRecDepth 100000 in
theorem okX6_manyHad (l : Launch) (D : va_G) (cy : Nat → ClassId) (ad : Nat → Nat) (A : Nat → Prop) (hD : ∀ S, va_D A (wM cy ad S)) (p0 : Int32) (p1 : Bool) (S : MS) (r : Int32) (hf : fX6_manyHad p0 p1 S = some r) : MI l yX6_manyHad wsX6_manyHad { frames := 1, cells := 0, slots := 0, locals := 22 } D cy A (wM cy ad S) [.ref (ad 0), .int p0, .int (bi p1)] r (wM cy ad S) := by
  refine Met.ofW (cc := cX6_manyHad) (maxL := 5) (ret := (some .int)) (by decide) rfl ?_
  intro p e s m args below meth c s₁ B hml hv
  obtain ⟨ha, hP, hK⟩ := hv
  have hx := B.exec
  have hb := B.bytes
  have hr := B.returns
  have hts := atoms_spec (ws := wsX6_manyHad) B.pre
  have hown : s.vm.findClass RX6 = some m.cls := findClass_of_methodNamed B.named
  have hlocks := B.notSynchronized
  have hS : va_S A s.heap s.heap [] := va_S.rf
  obtain ⟨ls, hl, he0⟩ := ent (m := m) ha (n := 5) (Nat.le_of_ble_eq_true rfl)
  refine W.eq he0 ?_
  have hl : lv_has ls 5 [(0, .ref (ad 0)), (1, .int p0), (2, .int (bi p1))] := hl
  have K5 : ∀ (n : Nat), ∀ (x1 : Int32) (x2 : Bool) (x3 : Int32) (x4 : Int32) (S : MS) (H : Heap) (locs : List Loc) (ls : Array Slot), va_P D vwCl (wM cy ad S) H → va_S A s.heap H locs → lv_has ls 5 [(0, .ref (ad 0)), (1, .int x1), (2, .int (bi x2)), (3, .int x3), (4, .int x4)] → lp (fun k q => bX6_manyHad_5  k q.1 q.2.1 q.2.2.1 q.2.2.2.1 q.2.2.2.2) n (x1, x2, x3, x4, S) = some r → W p l e (headSpec wsX6_manyHad { frames := 1, cells := 0, slots := 0, locals := 22 }).room s m args below meth c H locs 0 0 (MQ below (QcI D A r (wM cy ad S)) args s 0 0 A) (F0 m 5 ls []) := by
    intro  n
    induction n with
    | zero =>
      intro x1 x2 x3 x4 S H locs ls hP hS hl hf
      cases hf
    | succ n ih5 =>
      intro x1 x2 x3 x4 S H locs ls hP hS hl hf
      have hf : bX6_manyHad_5  (lp (fun k q => bX6_manyHad_5  k q.1 q.2.1 q.2.2.1 q.2.2.2.1 q.2.2.2.2) n) x1 x2 x3 x4 S = some r := hf
      generalize lp (fun k q => bX6_manyHad_5  k q.1 q.2.1 q.2.2.1 q.2.2.2.1 q.2.2.2.2) n = k5 at hf ih5
      unfold bX6_manyHad_5 at hf
      refine lv_iload hx hb dX6_manyHad_5 (lv_at hl 4 rfl) ?_
      refine lv_aload_n hx hb dX6_manyHad_7 rfl (lv_at hl 0 rfl) ?_
      refine gfX6_5 hx hb hts (fun _ h => List.mem_cons_of_mem _ (List.mem_append_right _ h)) hown hK hP (hts (Cond.fieldLink RX6 68 "WhoSpeaksModel" "paragraphs" "I") (List.mem_of_getElem? (i := 1) rfl)) dX6_manyHad_8 ?_
      refine lv_icmp_ge (tgt := 60) hx hb dX6_manyHad_11 (by decide) (fun c31 => ?_) (fun c31 => ?_)
      · have hf := (if_pos c31).symm.trans hf
        refine lv_iload_n hx hb dX6_manyHad_60 rfl (lv_at hl 3 rfl) ?_
        have he := Option.some.inj hf
        exact rI hx hb hr hP hS he hlocks dX6_manyHad_61
      · have hf := (if_neg c31).symm.trans hf
        refine lv_iload_n hx hb dX6_manyHad_14 rfl (lv_at hl 3 rfl) ?_
        refine lv_aload_n hx hb dX6_manyHad_15 rfl (lv_at hl 0 rfl) ?_
        refine gfX6_19 hx hb hts (fun _ h => List.mem_cons_of_mem _ (List.mem_append_right _ h)) hown hK hP (hts (Cond.fieldLink RX6 58 "WhoSpeaksModel" "sure" "[I") (List.mem_of_getElem? (i := 2) rfl)) dX6_manyHad_16 ?_
        refine lv_iload hx hb dX6_manyHad_19 (lv_at hl 4 rfl) ?_
        obtain ⟨c32, hf⟩ := ck_some hf
        refine alM15 hx hb hK hP c32 dX6_manyHad_21 ?_
        refine lv_iload_n hx hb dX6_manyHad_22 rfl (lv_at hl 1 rfl) ?_
        refine kSi (As := [.int (ma S 15 x4.toNatClampNeg), .int x1]) (rest := [.int x3]) ⟨hx, hb, hml, hown, hts⟩ (okX6_has l D cy A (wM cy ad S) (ma S 15 x4.toNatClampNeg) x1 _ rfl) (va_cwS 2 hts gX6_manyHad_X6_has rfl rfl rfl (by decide +kernel) ⟨Nat.le_of_ble_eq_true rfl, Nat.le_of_ble_eq_true rfl⟩) hK hP hS rfl hl.1 rfl (Nat.le_of_ble_eq_true rfl) dX6_manyHad_23 (fun H locs hP hS => ?_)
        refine lv_if_eq (tgt := 51) hx hb dX6_manyHad_26 (by decide) (fun c34 => ?_) (fun c34 => ?_)
        · have hf := (if_pos c34).symm.trans hf
          refine lv_iconst (v := 0) hx hb dX6_manyHad_51 (by decide) ?_
          refine lv_iadd hx hb dX6_manyHad_52 ?_
          refine lv_topi (fun y35 ey35 => ?_)
          have hf := bnd_of ey35 hf
          refine lv_istore_n (lv' := [(3, .int y35), (0, .ref (ad 0)), (1, .int x1), (2, .int (bi x2)), (4, .int x4)]) hx hb dX6_manyHad_53 rfl hl (by decide) rfl (fun ls hl => ?_)
          refine lv_iinc (v := (x4 + 1)) (lv' := [(4, .int (x4 + 1)), (3, .int y35), (0, .ref (ad 0)), (1, .int x1), (2, .int (bi x2))]) hx hb dX6_manyHad_54 hl (k := 4) rfl rfl (by decide) rfl (fun ls hl => ?_)
          refine lv_goto (tgt := 5) hx hb dX6_manyHad_57 (by decide) ?_
          exact ih5 (x1) (x2) (y35) ((x4 + 1)) S H locs ls hP hS (lv_sub hl [2, 3, 4, 1, 0] rfl) hf
        · have hf := (if_neg c34).symm.trans hf
          refine lv_iload_n hx hb dX6_manyHad_29 rfl (lv_at hl 2 rfl) ?_
          refine lv_if_eq (tgt := 47) hx hb dX6_manyHad_30 (by decide) (fun c36 => ?_) (fun c36 => ?_)
          · have hf := (if_pos c36).symm.trans hf
            refine lv_iconst (v := 1) hx hb dX6_manyHad_47 (by decide) ?_
            refine lv_goto (tgt := 52) hx hb dX6_manyHad_48 (by decide) ?_
            refine lv_iadd hx hb dX6_manyHad_52 ?_
            refine lv_topi (fun y37 ey37 => ?_)
            have hf := bnd_of ey37 hf
            refine lv_istore_n (lv' := [(3, .int y37), (0, .ref (ad 0)), (1, .int x1), (2, .int (bi x2)), (4, .int x4)]) hx hb dX6_manyHad_53 rfl hl (by decide) rfl (fun ls hl => ?_)
            refine lv_iinc (v := (x4 + 1)) (lv' := [(4, .int (x4 + 1)), (3, .int y37), (0, .ref (ad 0)), (1, .int x1), (2, .int (bi x2))]) hx hb dX6_manyHad_54 hl (k := 4) rfl rfl (by decide) rfl (fun ls hl => ?_)
            refine lv_goto (tgt := 5) hx hb dX6_manyHad_57 (by decide) ?_
            exact ih5 (x1) (x2) (y37) ((x4 + 1)) S H locs ls hP hS (lv_sub hl [2, 3, 4, 1, 0] rfl) hf
          · have hf := (if_neg c36).symm.trans hf
            refine lv_aload_n hx hb dX6_manyHad_33 rfl (lv_at hl 0 rfl) ?_
            refine gfX6_19 hx hb hts (fun _ h => List.mem_cons_of_mem _ (List.mem_append_right _ h)) hown hK hP (hts (Cond.fieldLink RX6 58 "WhoSpeaksModel" "sure" "[I") (List.mem_of_getElem? (i := 2) rfl)) dX6_manyHad_34 ?_
            refine lv_iload hx hb dX6_manyHad_37 (lv_at hl 4 rfl) ?_
            obtain ⟨c38, hf⟩ := ck_some hf
            refine alM15 hx hb hK hP c38 dX6_manyHad_39 ?_
            obtain ⟨r39, h40, hf⟩ := ob1_some hf
            refine kSi (As := [.int (ma S 15 x4.toNatClampNeg)]) (rest := [.int x3]) ⟨hx, hb, hml, hown, hts⟩ (okX6_size l D cy A (wM cy ad S) (ma S 15 x4.toNatClampNeg) r39 h40) (va_cwS 1 hts gX6_manyHad_X6_size rfl rfl rfl (by decide +kernel) ⟨Nat.le_of_ble_eq_true rfl, Nat.le_of_ble_eq_true rfl⟩) hK hP hS rfl hl.1 rfl (Nat.le_of_ble_eq_true rfl) dX6_manyHad_40 (fun H locs hP hS => ?_)
            refine lv_iconst (v := 1) hx hb dX6_manyHad_43 (by decide) ?_
            refine lv_icmp_ne (tgt := 51) hx hb dX6_manyHad_44 (by decide) (fun c41 => ?_) (fun c41 => ?_)
            · have hf := (if_neg c41).symm.trans hf
              refine lv_iconst (v := 0) hx hb dX6_manyHad_51 (by decide) ?_
              refine lv_iadd hx hb dX6_manyHad_52 ?_
              refine lv_topi (fun y42 ey42 => ?_)
              have hf := bnd_of ey42 hf
              refine lv_istore_n (lv' := [(3, .int y42), (0, .ref (ad 0)), (1, .int x1), (2, .int (bi x2)), (4, .int x4)]) hx hb dX6_manyHad_53 rfl hl (by decide) rfl (fun ls hl => ?_)
              refine lv_iinc (v := (x4 + 1)) (lv' := [(4, .int (x4 + 1)), (3, .int y42), (0, .ref (ad 0)), (1, .int x1), (2, .int (bi x2))]) hx hb dX6_manyHad_54 hl (k := 4) rfl rfl (by decide) rfl (fun ls hl => ?_)
              refine lv_goto (tgt := 5) hx hb dX6_manyHad_57 (by decide) ?_
              exact ih5 (x1) (x2) (y42) ((x4 + 1)) S H locs ls hP hS (lv_sub hl [2, 3, 4, 1, 0] rfl) hf
            · have hf := (if_pos c41).symm.trans hf
              refine lv_iconst (v := 1) hx hb dX6_manyHad_47 (by decide) ?_
              refine lv_goto (tgt := 52) hx hb dX6_manyHad_48 (by decide) ?_
              refine lv_iadd hx hb dX6_manyHad_52 ?_
              refine lv_topi (fun y43 ey43 => ?_)
              have hf := bnd_of ey43 hf
              refine lv_istore_n (lv' := [(3, .int y43), (0, .ref (ad 0)), (1, .int x1), (2, .int (bi x2)), (4, .int x4)]) hx hb dX6_manyHad_53 rfl hl (by decide) rfl (fun ls hl => ?_)
              refine lv_iinc (v := (x4 + 1)) (lv' := [(4, .int (x4 + 1)), (3, .int y43), (0, .ref (ad 0)), (1, .int x1), (2, .int (bi x2))]) hx hb dX6_manyHad_54 hl (k := 4) rfl rfl (by decide) rfl (fun ls hl => ?_)
              refine lv_goto (tgt := 5) hx hb dX6_manyHad_57 (by decide) ?_
              exact ih5 (x1) (x2) (y43) ((x4 + 1)) S H locs ls hP hS (lv_sub hl [2, 3, 4, 1, 0] rfl) hf
  unfold fX6_manyHad at hf
  suffices hG : ∀ (H : Heap) (locs : List Loc), va_P D vwCl (wM cy ad S) H → va_S A s.heap H locs → W p l e (headSpec wsX6_manyHad { frames := 1, cells := 0, slots := 0, locals := 22 }).room s m args below meth c H locs 0 0 (MQ below (QcI D A r (wM cy ad S)) args s 0 0 A) (F0 m 0 ls []) by exact hG s.heap [] hP va_S.rf
  clear hP hS
  intro H locs hP hS
  refine lv_iconst (v := 0) hx hb dX6_manyHad_0 (by decide) ?_
  refine lv_istore_n (lv' := [(3, .int 0), (0, .ref (ad 0)), (1, .int p0), (2, .int (bi p1))]) hx hb dX6_manyHad_1 rfl hl (by decide) rfl (fun ls hl => ?_)
  refine lv_iconst (v := 0) hx hb dX6_manyHad_2 (by decide) ?_
  refine lv_istore (lv' := [(4, .int 0), (3, .int 0), (0, .ref (ad 0)), (1, .int p0), (2, .int (bi p1))]) hx hb dX6_manyHad_3 hl (by decide) rfl (fun ls hl => ?_)
  exact K5  FU (p0) (p1) (0) (0) S H locs ls hP hS (lv_sub hl [2, 3, 4, 1, 0] rfl) hf

def bX6_firstHad_6  (k6 : Int32 × Bool × Int32 × Int32 × MS → Option Int32) (x1 : Int32) (x2 : Bool) (x3 : Int32) (x4 : Int32) (S : MS) : Option Int32 := (if (mi S 3) ≤ x4 then (some x3) else (ck x4 16 (if (ma S 15 x4.toNatClampNeg) = ((1 : Int32) <<< (x1 &&& 31)) then (if x3 = (-9) then (k6 (x1, x2, x4, (x4 + 1), S)) else (if (bi x2) = 0 then (k6 (x1, x2, x3, (x4 + 1), S)) else (k6 (x1, x2, x4, (x4 + 1), S)))) else (k6 (x1, x2, x3, (x4 + 1), S)))))
def fX6_firstHad (p0 : Int32) (p1 : Bool) (S : MS) : Option Int32 := (lp (fun k q => bX6_firstHad_6  k q.1 q.2.1 q.2.2.1 q.2.2.2.1 q.2.2.2.2) FU (p0, p1, (-9), 0, S))
set_option maxHeartbeats 4000000 in
set_option maxRecDepth 100000 in
theorem okX6_firstHad (l : Launch) (D : va_G) (cy : Nat → ClassId) (ad : Nat → Nat) (A : Nat → Prop) (hD : ∀ S, va_D A (wM cy ad S)) (p0 : Int32) (p1 : Bool) (S : MS) (r : Int32) (hf : fX6_firstHad p0 p1 S = some r) : MI l yX6_firstHad wsX6_firstHad { frames := 0, cells := 0, slots := 0, locals := 0 } D cy A (wM cy ad S) [.ref (ad 0), .int p0, .int (bi p1)] r (wM cy ad S) := by
  refine Met.ofW (cc := cX6_firstHad) (maxL := 5) (ret := (some .int)) (by decide) rfl ?_
  intro p e s m args below meth c s₁ B hml hv
  obtain ⟨ha, hP, hK⟩ := hv
  have hx := B.exec
  have hb := B.bytes
  have hr := B.returns
  have hts := atoms_spec (ws := wsX6_firstHad) B.pre
  have hown : s.vm.findClass RX6 = some m.cls := findClass_of_methodNamed B.named
  have hlocks := B.notSynchronized
  have hS : va_S A s.heap s.heap [] := va_S.rf
  obtain ⟨ls, hl, he0⟩ := ent (m := m) ha (n := 5) (Nat.le_of_ble_eq_true rfl)
  refine W.eq he0 ?_
  have hl : lv_has ls 5 [(0, .ref (ad 0)), (1, .int p0), (2, .int (bi p1))] := hl
  have K6 : ∀ (n : Nat), ∀ (x1 : Int32) (x2 : Bool) (x3 : Int32) (x4 : Int32) (S : MS) (H : Heap) (locs : List Loc) (ls : Array Slot), va_P D vwCl (wM cy ad S) H → va_S A s.heap H locs → lv_has ls 5 [(0, .ref (ad 0)), (1, .int x1), (2, .int (bi x2)), (3, .int x3), (4, .int x4)] → lp (fun k q => bX6_firstHad_6  k q.1 q.2.1 q.2.2.1 q.2.2.2.1 q.2.2.2.2) n (x1, x2, x3, x4, S) = some r → W p l e (headSpec wsX6_firstHad { frames := 0, cells := 0, slots := 0, locals := 0 }).room s m args below meth c H locs 0 0 (MQ below (QcI D A r (wM cy ad S)) args s 0 0 A) (F0 m 6 ls []) := by
    intro  n
    induction n with
    | zero =>
      intro x1 x2 x3 x4 S H locs ls hP hS hl hf
      cases hf
    | succ n ih6 =>
      intro x1 x2 x3 x4 S H locs ls hP hS hl hf
      have hf : bX6_firstHad_6  (lp (fun k q => bX6_firstHad_6  k q.1 q.2.1 q.2.2.1 q.2.2.2.1 q.2.2.2.2) n) x1 x2 x3 x4 S = some r := hf
      generalize lp (fun k q => bX6_firstHad_6  k q.1 q.2.1 q.2.2.1 q.2.2.2.1 q.2.2.2.2) n = k6 at hf ih6
      unfold bX6_firstHad_6 at hf
      refine lv_iload hx hb dX6_firstHad_6 (lv_at hl 4 rfl) ?_
      refine lv_aload_n hx hb dX6_firstHad_8 rfl (lv_at hl 0 rfl) ?_
      refine gfX6_5 hx hb hts (fun _ h => List.mem_cons_of_mem _ (List.mem_append_right _ h)) hown hK hP (hts (Cond.fieldLink RX6 68 "WhoSpeaksModel" "paragraphs" "I") (List.mem_of_getElem? (i := 1) rfl)) dX6_firstHad_9 ?_
      refine lv_icmp_ge (tgt := 51) hx hb dX6_firstHad_12 (by decide) (fun c16 => ?_) (fun c16 => ?_)
      · have hf := (if_pos c16).symm.trans hf
        refine lv_iload_n hx hb dX6_firstHad_51 rfl (lv_at hl 3 rfl) ?_
        have he := Option.some.inj hf
        exact rI hx hb hr hP hS he hlocks dX6_firstHad_52
      · have hf := (if_neg c16).symm.trans hf
        refine lv_aload_n hx hb dX6_firstHad_15 rfl (lv_at hl 0 rfl) ?_
        refine gfX6_19 hx hb hts (fun _ h => List.mem_cons_of_mem _ (List.mem_append_right _ h)) hown hK hP (hts (Cond.fieldLink RX6 58 "WhoSpeaksModel" "sure" "[I") (List.mem_of_getElem? (i := 2) rfl)) dX6_firstHad_16 ?_
        refine lv_iload hx hb dX6_firstHad_19 (lv_at hl 4 rfl) ?_
        obtain ⟨c17, hf⟩ := ck_some hf
        refine alM15 hx hb hK hP c17 dX6_firstHad_21 ?_
        refine lv_iconst (v := 1) hx hb dX6_firstHad_22 (by decide) ?_
        refine lv_iload_n hx hb dX6_firstHad_23 rfl (lv_at hl 1 rfl) ?_
        refine lv_ishl hx hb dX6_firstHad_24 ?_
        refine lv_icmp_ne (tgt := 43) hx hb dX6_firstHad_25 (by decide) (fun c18 => ?_) (fun c18 => ?_)
        · have hf := (if_neg c18).symm.trans hf
          refine lv_iload_n hx hb dX6_firstHad_43 rfl (lv_at hl 3 rfl) ?_
          refine lv_istore_n (lv' := [(3, .int x3), (0, .ref (ad 0)), (1, .int x1), (2, .int (bi x2)), (4, .int x4)]) hx hb dX6_firstHad_44 rfl hl (by decide) rfl (fun ls hl => ?_)
          refine lv_iinc (v := (x4 + 1)) (lv' := [(4, .int (x4 + 1)), (3, .int x3), (0, .ref (ad 0)), (1, .int x1), (2, .int (bi x2))]) hx hb dX6_firstHad_45 hl (k := 4) rfl rfl (by decide) rfl (fun ls hl => ?_)
          refine lv_goto (tgt := 6) hx hb dX6_firstHad_48 (by decide) ?_
          exact ih6 (x1) (x2) (x3) ((x4 + 1)) S H locs ls hP hS (lv_sub hl [2, 3, 4, 1, 0] rfl) hf
        · have hf := (if_pos c18).symm.trans hf
          refine lv_iload_n hx hb dX6_firstHad_28 rfl (lv_at hl 3 rfl) ?_
          refine lv_bipush (v := (-9)) hx hb dX6_firstHad_29 (by decide) ?_
          refine lv_icmp_eq (tgt := 38) hx hb dX6_firstHad_31 (by decide) (fun c19 => ?_) (fun c19 => ?_)
          · have hf := (if_pos c19).symm.trans hf
            refine lv_iload hx hb dX6_firstHad_38 (lv_at hl 4 rfl) ?_
            refine lv_goto (tgt := 44) hx hb dX6_firstHad_40 (by decide) ?_
            refine lv_istore_n (lv' := [(3, .int x4), (0, .ref (ad 0)), (1, .int x1), (2, .int (bi x2)), (4, .int x4)]) hx hb dX6_firstHad_44 rfl hl (by decide) rfl (fun ls hl => ?_)
            refine lv_iinc (v := (x4 + 1)) (lv' := [(4, .int (x4 + 1)), (3, .int x4), (0, .ref (ad 0)), (1, .int x1), (2, .int (bi x2))]) hx hb dX6_firstHad_45 hl (k := 4) rfl rfl (by decide) rfl (fun ls hl => ?_)
            refine lv_goto (tgt := 6) hx hb dX6_firstHad_48 (by decide) ?_
            exact ih6 (x1) (x2) (x4) ((x4 + 1)) S H locs ls hP hS (lv_sub hl [2, 3, 4, 1, 0] rfl) hf
          · have hf := (if_neg c19).symm.trans hf
            refine lv_iload_n hx hb dX6_firstHad_34 rfl (lv_at hl 2 rfl) ?_
            refine lv_if_eq (tgt := 43) hx hb dX6_firstHad_35 (by decide) (fun c20 => ?_) (fun c20 => ?_)
            · have hf := (if_pos c20).symm.trans hf
              refine lv_iload_n hx hb dX6_firstHad_43 rfl (lv_at hl 3 rfl) ?_
              refine lv_istore_n (lv' := [(3, .int x3), (0, .ref (ad 0)), (1, .int x1), (2, .int (bi x2)), (4, .int x4)]) hx hb dX6_firstHad_44 rfl hl (by decide) rfl (fun ls hl => ?_)
              refine lv_iinc (v := (x4 + 1)) (lv' := [(4, .int (x4 + 1)), (3, .int x3), (0, .ref (ad 0)), (1, .int x1), (2, .int (bi x2))]) hx hb dX6_firstHad_45 hl (k := 4) rfl rfl (by decide) rfl (fun ls hl => ?_)
              refine lv_goto (tgt := 6) hx hb dX6_firstHad_48 (by decide) ?_
              exact ih6 (x1) (x2) (x3) ((x4 + 1)) S H locs ls hP hS (lv_sub hl [2, 3, 4, 1, 0] rfl) hf
            · have hf := (if_neg c20).symm.trans hf
              refine lv_iload hx hb dX6_firstHad_38 (lv_at hl 4 rfl) ?_
              refine lv_goto (tgt := 44) hx hb dX6_firstHad_40 (by decide) ?_
              refine lv_istore_n (lv' := [(3, .int x4), (0, .ref (ad 0)), (1, .int x1), (2, .int (bi x2)), (4, .int x4)]) hx hb dX6_firstHad_44 rfl hl (by decide) rfl (fun ls hl => ?_)
              refine lv_iinc (v := (x4 + 1)) (lv' := [(4, .int (x4 + 1)), (3, .int x4), (0, .ref (ad 0)), (1, .int x1), (2, .int (bi x2))]) hx hb dX6_firstHad_45 hl (k := 4) rfl rfl (by decide) rfl (fun ls hl => ?_)
              refine lv_goto (tgt := 6) hx hb dX6_firstHad_48 (by decide) ?_
              exact ih6 (x1) (x2) (x4) ((x4 + 1)) S H locs ls hP hS (lv_sub hl [2, 3, 4, 1, 0] rfl) hf
  unfold fX6_firstHad at hf
  suffices hG : ∀ (H : Heap) (locs : List Loc), va_P D vwCl (wM cy ad S) H → va_S A s.heap H locs → W p l e (headSpec wsX6_firstHad { frames := 0, cells := 0, slots := 0, locals := 0 }).room s m args below meth c H locs 0 0 (MQ below (QcI D A r (wM cy ad S)) args s 0 0 A) (F0 m 0 ls []) by exact hG s.heap [] hP va_S.rf
  clear hP hS
  intro H locs hP hS
  refine lv_bipush (v := (-9)) hx hb dX6_firstHad_0 (by decide) ?_
  refine lv_istore_n (lv' := [(3, .int (-9)), (0, .ref (ad 0)), (1, .int p0), (2, .int (bi p1))]) hx hb dX6_firstHad_2 rfl hl (by decide) rfl (fun ls hl => ?_)
  refine lv_iconst (v := 0) hx hb dX6_firstHad_3 (by decide) ?_
  refine lv_istore (lv' := [(4, .int 0), (3, .int (-9)), (0, .ref (ad 0)), (1, .int p0), (2, .int (bi p1))]) hx hb dX6_firstHad_4 hl (by decide) rfl (fun ls hl => ?_)
  exact K6  FU (p0) (p1) ((-9)) (0) S H locs ls hP hS (lv_sub hl [2, 3, 4, 1, 0] rfl) hf

def fX6_ofPerson (p0 : Int32) (p1 : Int32) (S : MS) : Option (Int32 × MS) := (ob1 (fX6_isThere p0 S) (fun r4 => (if (bi r4) = 0 then (some ((-1), S)) else (ob1 (fX6_findSure  S) (fun S8 => (if p1 = 0 then (ck p0 8 (some ((ma S8 1 p0.toNatClampNeg), S8))) else (if p1 = 1 then (ob1 (fX6_manyHad p0 true S8) (fun r12 => (some (r12, S8)))) else (if p1 = 2 then (ob1 (fX6_manyHad p0 false S8) (fun r15 => (some (r15, S8)))) else (if p1 = 3 then (ob1 (fX6_firstHad p0 false S8) (fun r18 => (some (r18, S8)))) else (if p1 = 4 then (ob1 (fX6_firstHad p0 true S8) (fun r21 => (some (r21, S8)))) else (if p1 = 5 then (if (bi (fX6_has (mi S8 0) p0)) = 0 then (some (0, S8)) else (some (1, S8))) else (some ((-2), S8)))))))))))))
set_option maxHeartbeats 4000000 in
set_option maxRecDepth 100000 in
theorem okX6_ofPerson (l : Launch) (D : va_G) (cy : Nat → ClassId) (ad : Nat → Nat) (A : Nat → Prop) (hD : ∀ S, va_D A (wM cy ad S)) (p0 : Int32) (p1 : Int32) (S : MS) (r : Int32) (S' : MS) (hf : fX6_ofPerson p0 p1 S = some (r, S')) : MI l yX6_ofPerson wsX6_ofPerson { frames := 9, cells := 0, slots := 0, locals := 199 } D cy A (wM cy ad S) [.ref (ad 0), .int p0, .int p1] r (wM cy ad S') := by
  refine Met.ofW (cc := cX6_ofPerson) (maxL := 3) (ret := (some .int)) (by decide) rfl ?_
  intro p e s m args below meth c s₁ B hml hv
  obtain ⟨ha, hP, hK⟩ := hv
  have hx := B.exec
  have hb := B.bytes
  have hr := B.returns
  have hts := atoms_spec (ws := wsX6_ofPerson) B.pre
  have hown : s.vm.findClass RX6 = some m.cls := findClass_of_methodNamed B.named
  have hlocks := B.notSynchronized
  have hS : va_S A s.heap s.heap [] := va_S.rf
  obtain ⟨ls, hl, he0⟩ := ent (m := m) ha (n := 3) (Nat.le_of_ble_eq_true rfl)
  refine W.eq he0 ?_
  have hl : lv_has ls 3 [(0, .ref (ad 0)), (1, .int p0), (2, .int p1)] := hl
  unfold fX6_ofPerson at hf
  suffices hG : ∀ (H : Heap) (locs : List Loc), va_P D vwCl (wM cy ad S) H → va_S A s.heap H locs → W p l e (headSpec wsX6_ofPerson { frames := 9, cells := 0, slots := 0, locals := 199 }).room s m args below meth c H locs 0 0 (MQ below (QcI D A r (wM cy ad S')) args s 0 0 A) (F0 m 0 ls []) by exact hG s.heap [] hP va_S.rf
  clear hP hS
  intro H locs hP hS
  refine lv_aload_n hx hb dX6_ofPerson_0 rfl (lv_at hl 0 rfl) ?_
  refine lv_iload_n hx hb dX6_ofPerson_1 rfl (lv_at hl 1 rfl) ?_
  obtain ⟨r4, h5, hf⟩ := ob1_some hf
  refine kVi (As := [.int p0]) (rest := []) ⟨hx, hb, hml, hown, hts⟩ (okX6_isThere l D cy ad A hD p0 S r4 h5) (cwV 1 hts gX6_ofPerson_X6_isThere rfl rfl rfl (by decide +kernel) ⟨Nat.le_of_ble_eq_true rfl, Nat.le_of_ble_eq_true rfl⟩) hK hP hS (va_recv hK.1 hP (ci := 6) (q := (RX6, TX6, 21)) rfl (atM0 cy ad S)) rfl hl.1 rfl (Nat.le_of_ble_eq_true rfl) dX6_ofPerson_2 (fun H locs hP hS => ?_)
  refine lv_if_ne (tgt := 10) hx hb dX6_ofPerson_5 (by decide) (fun c6 => ?_) (fun c6 => ?_)
  · have hf := (if_neg c6).symm.trans hf
    refine lv_aload_n hx hb dX6_ofPerson_10 rfl (lv_at hl 0 rfl) ?_
    obtain ⟨S8, h7, hf⟩ := ob1_some hf
    refine kVv (As := []) (rest := []) ⟨hx, hb, hml, hown, hts⟩ (okX6_findSure l D cy ad A hD  S S8 h7) (cwV 0 hts gX6_ofPerson_X6_findSure rfl rfl rfl (by decide +kernel) ⟨Nat.le_of_ble_eq_true rfl, Nat.le_of_ble_eq_true rfl⟩) hK hP hS (va_recv hK.1 hP (ci := 6) (q := (RX6, TX6, 21)) rfl (atM0 cy ad S)) rfl hl.1 rfl (Nat.le_of_ble_eq_true rfl) dX6_ofPerson_11 (fun H locs hP hS => ?_)
    refine lv_iload_n hx hb dX6_ofPerson_14 rfl (lv_at hl 2 rfl) ?_
    by_cases c9 : p1 = 0
    · have hf := (if_pos c9).symm.trans hf
      refine lv_tableIn (off := 37) (tgt := 52) hx hb dX6_ofPerson_15 (by rw [c9]; decide) (by rw [c9]; decide) (by rw [c9]; rfl) (by decide) ?_
      refine lv_aload_n hx hb dX6_ofPerson_52 rfl (lv_at hl 0 rfl) ?_
      refine gfX6_0 hx hb hts (fun _ h => List.mem_cons_of_mem _ (List.mem_append_right _ h)) hown hK hP (hts (Cond.fieldLink RX6 7 "WhoSpeaksModel" "sortOf" "[I") (List.mem_of_getElem? (i := 1) rfl)) dX6_ofPerson_53 ?_
      refine lv_iload_n hx hb dX6_ofPerson_56 rfl (lv_at hl 1 rfl) ?_
      obtain ⟨c10, hf⟩ := ck_some hf
      refine alM1 hx hb hK hP c10 dX6_ofPerson_57 ?_
      obtain ⟨he, hS9⟩ := Prod.mk.inj (Option.some.inj hf)
      subst hS9
      exact rI hx hb hr hP hS he hlocks dX6_ofPerson_58
    · have hf := (if_neg c9).symm.trans hf
      by_cases c11 : p1 = 1
      · have hf := (if_pos c11).symm.trans hf
        refine lv_tableIn (off := 44) (tgt := 59) hx hb dX6_ofPerson_15 (by rw [c11]; decide) (by rw [c11]; decide) (by rw [c11]; rfl) (by decide) ?_
        refine lv_aload_n hx hb dX6_ofPerson_59 rfl (lv_at hl 0 rfl) ?_
        refine lv_iload_n hx hb dX6_ofPerson_60 rfl (lv_at hl 1 rfl) ?_
        refine lv_iconst (v := 1) hx hb dX6_ofPerson_61 (by decide) ?_
        obtain ⟨r12, h13, hf⟩ := ob1_some hf
        refine kVi (As := [.int p0, .int 1]) (rest := []) ⟨hx, hb, hml, hown, hts⟩ (okX6_manyHad l D cy ad A hD p0 true S8 r12 h13) (cwV 2 hts gX6_ofPerson_X6_manyHad rfl rfl rfl (by decide +kernel) ⟨Nat.le_of_ble_eq_true rfl, Nat.le_of_ble_eq_true rfl⟩) hK hP hS (va_recv hK.1 hP (ci := 6) (q := (RX6, TX6, 21)) rfl (atM0 cy ad S8)) rfl hl.1 rfl (Nat.le_of_ble_eq_true rfl) dX6_ofPerson_62 (fun H locs hP hS => ?_)
        obtain ⟨he, hS9⟩ := Prod.mk.inj (Option.some.inj hf)
        subst hS9
        exact rI hx hb hr hP hS he hlocks dX6_ofPerson_65
      · have hf := (if_neg c11).symm.trans hf
        by_cases c14 : p1 = 2
        · have hf := (if_pos c14).symm.trans hf
          refine lv_tableIn (off := 51) (tgt := 66) hx hb dX6_ofPerson_15 (by rw [c14]; decide) (by rw [c14]; decide) (by rw [c14]; rfl) (by decide) ?_
          refine lv_aload_n hx hb dX6_ofPerson_66 rfl (lv_at hl 0 rfl) ?_
          refine lv_iload_n hx hb dX6_ofPerson_67 rfl (lv_at hl 1 rfl) ?_
          refine lv_iconst (v := 0) hx hb dX6_ofPerson_68 (by decide) ?_
          obtain ⟨r15, h16, hf⟩ := ob1_some hf
          refine kVi (As := [.int p0, .int 0]) (rest := []) ⟨hx, hb, hml, hown, hts⟩ (okX6_manyHad l D cy ad A hD p0 false S8 r15 h16) (cwV 2 hts gX6_ofPerson_X6_manyHad rfl rfl rfl (by decide +kernel) ⟨Nat.le_of_ble_eq_true rfl, Nat.le_of_ble_eq_true rfl⟩) hK hP hS (va_recv hK.1 hP (ci := 6) (q := (RX6, TX6, 21)) rfl (atM0 cy ad S8)) rfl hl.1 rfl (Nat.le_of_ble_eq_true rfl) dX6_ofPerson_69 (fun H locs hP hS => ?_)
          obtain ⟨he, hS9⟩ := Prod.mk.inj (Option.some.inj hf)
          subst hS9
          exact rI hx hb hr hP hS he hlocks dX6_ofPerson_72
        · have hf := (if_neg c14).symm.trans hf
          by_cases c17 : p1 = 3
          · have hf := (if_pos c17).symm.trans hf
            refine lv_tableIn (off := 58) (tgt := 73) hx hb dX6_ofPerson_15 (by rw [c17]; decide) (by rw [c17]; decide) (by rw [c17]; rfl) (by decide) ?_
            refine lv_aload_n hx hb dX6_ofPerson_73 rfl (lv_at hl 0 rfl) ?_
            refine lv_iload_n hx hb dX6_ofPerson_74 rfl (lv_at hl 1 rfl) ?_
            refine lv_iconst (v := 0) hx hb dX6_ofPerson_75 (by decide) ?_
            obtain ⟨r18, h19, hf⟩ := ob1_some hf
            refine kVi (As := [.int p0, .int 0]) (rest := []) ⟨hx, hb, hml, hown, hts⟩ (okX6_firstHad l D cy ad A hD p0 false S8 r18 h19) (cwV 2 hts gX6_ofPerson_X6_firstHad rfl rfl rfl (by decide +kernel) ⟨Nat.le_of_ble_eq_true rfl, Nat.le_of_ble_eq_true rfl⟩) hK hP hS (va_recv hK.1 hP (ci := 6) (q := (RX6, TX6, 21)) rfl (atM0 cy ad S8)) rfl hl.1 rfl (Nat.le_of_ble_eq_true rfl) dX6_ofPerson_76 (fun H locs hP hS => ?_)
            obtain ⟨he, hS9⟩ := Prod.mk.inj (Option.some.inj hf)
            subst hS9
            exact rI hx hb hr hP hS he hlocks dX6_ofPerson_79
          · have hf := (if_neg c17).symm.trans hf
            by_cases c20 : p1 = 4
            · have hf := (if_pos c20).symm.trans hf
              refine lv_tableIn (off := 65) (tgt := 80) hx hb dX6_ofPerson_15 (by rw [c20]; decide) (by rw [c20]; decide) (by rw [c20]; rfl) (by decide) ?_
              refine lv_aload_n hx hb dX6_ofPerson_80 rfl (lv_at hl 0 rfl) ?_
              refine lv_iload_n hx hb dX6_ofPerson_81 rfl (lv_at hl 1 rfl) ?_
              refine lv_iconst (v := 1) hx hb dX6_ofPerson_82 (by decide) ?_
              obtain ⟨r21, h22, hf⟩ := ob1_some hf
              refine kVi (As := [.int p0, .int 1]) (rest := []) ⟨hx, hb, hml, hown, hts⟩ (okX6_firstHad l D cy ad A hD p0 true S8 r21 h22) (cwV 2 hts gX6_ofPerson_X6_firstHad rfl rfl rfl (by decide +kernel) ⟨Nat.le_of_ble_eq_true rfl, Nat.le_of_ble_eq_true rfl⟩) hK hP hS (va_recv hK.1 hP (ci := 6) (q := (RX6, TX6, 21)) rfl (atM0 cy ad S8)) rfl hl.1 rfl (Nat.le_of_ble_eq_true rfl) dX6_ofPerson_83 (fun H locs hP hS => ?_)
              obtain ⟨he, hS9⟩ := Prod.mk.inj (Option.some.inj hf)
              subst hS9
              exact rI hx hb hr hP hS he hlocks dX6_ofPerson_86
            · have hf := (if_neg c20).symm.trans hf
              by_cases c23 : p1 = 5
              · have hf := (if_pos c23).symm.trans hf
                refine lv_tableIn (off := 72) (tgt := 87) hx hb dX6_ofPerson_15 (by rw [c23]; decide) (by rw [c23]; decide) (by rw [c23]; rfl) (by decide) ?_
                refine lv_aload_n hx hb dX6_ofPerson_87 rfl (lv_at hl 0 rfl) ?_
                refine gfX6_1 hx hb hts (fun _ h => List.mem_cons_of_mem _ (List.mem_append_right _ h)) hown hK hP (hts (Cond.fieldLink RX6 89 "WhoSpeaksModel" "here" "I") (List.mem_of_getElem? (i := 2) rfl)) dX6_ofPerson_88 ?_
                refine lv_iload_n hx hb dX6_ofPerson_91 rfl (lv_at hl 1 rfl) ?_
                refine kSi (As := [.int (mi S8 0), .int p0]) (rest := []) ⟨hx, hb, hml, hown, hts⟩ (okX6_has l D cy A (wM cy ad S8) (mi S8 0) p0 _ rfl) (va_cwS 2 hts gX6_ofPerson_X6_has rfl rfl rfl (by decide +kernel) ⟨Nat.le_of_ble_eq_true rfl, Nat.le_of_ble_eq_true rfl⟩) hK hP hS rfl hl.1 rfl (Nat.le_of_ble_eq_true rfl) dX6_ofPerson_92 (fun H locs hP hS => ?_)
                refine lv_if_eq (tgt := 102) hx hb dX6_ofPerson_95 (by decide) (fun c25 => ?_) (fun c25 => ?_)
                · have hf := (if_pos c25).symm.trans hf
                  refine lv_iconst (v := 0) hx hb dX6_ofPerson_102 (by decide) ?_
                  obtain ⟨he, hS9⟩ := Prod.mk.inj (Option.some.inj hf)
                  subst hS9
                  exact rI hx hb hr hP hS he hlocks dX6_ofPerson_103
                · have hf := (if_neg c25).symm.trans hf
                  refine lv_iconst (v := 1) hx hb dX6_ofPerson_98 (by decide) ?_
                  refine lv_goto (tgt := 103) hx hb dX6_ofPerson_99 (by decide) ?_
                  obtain ⟨he, hS9⟩ := Prod.mk.inj (Option.some.inj hf)
                  subst hS9
                  exact rI hx hb hr hP hS he hlocks dX6_ofPerson_103
              · have hf := (if_neg c23).symm.trans hf
                refine lv_tableOut (tgt := 104) hx hb dX6_ofPerson_15 (by have n0 := ne_toInt c9; have z0 : (0 : Int32).toInt = 0 := rfl; have n1 := ne_toInt c11; have z1 : (1 : Int32).toInt = 1 := rfl; have n2 := ne_toInt c14; have z2 : (2 : Int32).toInt = 2 := rfl; have n3 := ne_toInt c17; have z3 : (3 : Int32).toInt = 3 := rfl; have n4 := ne_toInt c20; have z4 : (4 : Int32).toInt = 4 := rfl; have n5 := ne_toInt c23; have z5 : (5 : Int32).toInt = 5 := rfl; omega) (by decide) ?_
                refine lv_bipush (v := (-2)) hx hb dX6_ofPerson_104 (by decide) ?_
                obtain ⟨he, hS9⟩ := Prod.mk.inj (Option.some.inj hf)
                subst hS9
                exact rI hx hb hr hP hS he hlocks dX6_ofPerson_106
  · have hf := (if_pos c6).symm.trans hf
    refine lv_iconst (v := (-1)) hx hb dX6_ofPerson_8 (by decide) ?_
    obtain ⟨he, hS9⟩ := Prod.mk.inj (Option.some.inj hf)
    subst hS9
    exact rI hx hb hr hP hS he hlocks dX6_ofPerson_9
