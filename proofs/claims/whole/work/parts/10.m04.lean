def bX6_narrows_127  (k127 : Bool × Int32 × MS → Option (Bool × MS)) (x1 : Bool) (x2 : Int32) (S : MS) : Option (Bool × MS) := (if (mi S 3) ≤ x2 then (some (x1, S)) else (ck x2 16 (ck x2 16 (bnd (maW S 10 x2.toNatClampNeg (ma S 11 x2.toNatClampNeg)) (fun S96 => (k127 (x1, (x2 + 1), S96)))))))
def bX6_narrows_90 (k4 : Bool × Int32 × MS → Option (Bool × MS)) (x1 : Bool) (x2 : Int32) (s1 : Int32) (s3 : Int32) (s4 : Int32) (s5 : Int32) (S : MS) : Option (Bool × MS) := (ob1 (fX6_by s3 s4 s5 S) (fun r98 => (ck s1 16 (bnd (maW S 11 s1.toNatClampNeg r98) (fun S100 => (if (bi x1) = 0 then (ck x2 16 (ck x2 16 (if (ma S100 11 x2.toNatClampNeg) = (ma S100 10 x2.toNatClampNeg) then (k4 (false, (x2 + 1), S100)) else (k4 (true, (x2 + 1), S100))))) else (k4 (true, (x2 + 1), S100))))))))
def bX6_narrows_45 (k4 : Bool × Int32 × MS → Option (Bool × MS)) (x1 : Bool) (x2 : Int32) (s1 : Int32) (s3 : Int32) (s4 : Int32) (s5 : Int32) (S : MS) : Option (Bool × MS) := (ob1 (fX6_by s3 s4 s5 S) (fun r106 => (ck s1 16 (bnd (maW S 11 s1.toNatClampNeg r106) (fun S108 => (ck x2 16 (ob1 (fX6_linkAt (x2 + 1) S108) (fun r111 => (if (mi S108 3) ≤ (x2 + 1) then (bX6_narrows_90 k4 (x1) (x2) (x2) ((ma S108 11 x2.toNatClampNeg)) (r111) (0) S108) else (ck (x2 + 1) 16 (bX6_narrows_90 k4 (x1) (x2) (x2) ((ma S108 11 x2.toNatClampNeg)) (r111) ((ma S108 10 (x2 + 1).toNatClampNeg)) S108)))))))))))
def bX6_narrows_4  (k4 : Bool × Int32 × MS → Option (Bool × MS)) (x1 : Bool) (x2 : Int32) (S : MS) : Option (Bool × MS) := (if (mi S 3) ≤ x2 then (lp (fun k q => bX6_narrows_127  k q.1 q.2.1 q.2.2) FU (x1, 0, S)) else (ck x2 16 (ob1 (fX6_linkAt x2 S) (fun r117 => (if x2 ≤ 0 then (bX6_narrows_45 k4 (x1) (x2) (x2) ((ma S 10 x2.toNatClampNeg)) (r117) (0) S) else (ck (x2 - 1) 16 (bX6_narrows_45 k4 (x1) (x2) (x2) ((ma S 10 x2.toNatClampNeg)) (r117) ((ma S 10 (x2 - 1).toNatClampNeg)) S)))))))
def fX6_narrows  (S : MS) : Option (Bool × MS) := (lp (fun k q => bX6_narrows_4  k q.1 q.2.1 q.2.2) FU (false, 0, S))
set_option maxHeartbeats 4000000 in
set_option maxRecDepth 100000 in
theorem okX6_narrows (l : Launch) (D : va_G) (cy : Nat → ClassId) (ad : Nat → Nat) (A : Nat → Prop) (hD : ∀ S, va_D A (wM cy ad S))  (S : MS) (r : Bool) (S' : MS) (hf : fX6_narrows  S = some (r, S')) : MI l yX6_narrows wsX6_narrows { frames := 3, cells := 0, slots := 0, locals := 66 } D cy A (wM cy ad S) [.ref (ad 0)] (bi r) (wM cy ad S') := by
  refine Met.ofW (cc := cX6_narrows) (maxL := 3) (ret := (some .boolean)) (by decide) rfl ?_
  intro p e s m args below meth c s₁ B hml hv
  obtain ⟨ha, hP, hK⟩ := hv
  have hx := B.exec
  have hb := B.bytes
  have hr := B.returns
  have hts := atoms_spec (ws := wsX6_narrows) B.pre
  have hown : s.vm.findClass RX6 = some m.cls := findClass_of_methodNamed B.named
  have hlocks := B.notSynchronized
  have hS : va_S A s.heap s.heap [] := va_S.rf
  obtain ⟨ls, hl, he0⟩ := ent (m := m) ha (n := 3) (Nat.le_of_ble_eq_true rfl)
  refine W.eq he0 ?_
  have hl : lv_has ls 3 [(0, .ref (ad 0))] := hl
  have K127 : ∀ (n : Nat), ∀ (x1 : Bool) (x2 : Int32) (S : MS) (H : Heap) (locs : List Loc) (ls : Array Slot), va_P D vwCl (wM cy ad S) H → va_S A s.heap H locs → lv_has ls 3 [(0, .ref (ad 0)), (1, .int (bi x1)), (2, .int x2)] → lp (fun k q => bX6_narrows_127  k q.1 q.2.1 q.2.2) n (x1, x2, S) = some (r, S') → W p l e (headSpec wsX6_narrows { frames := 3, cells := 0, slots := 0, locals := 66 }).room s m args below meth c H locs 0 0 (MQ below (QcI D A (bi r) (wM cy ad S')) args s 0 0 A) (F0 m 127 ls []) := by
    intro  n
    induction n with
    | zero =>
      intro x1 x2 S H locs ls hP hS hl hf
      cases hf
    | succ n ih127 =>
      intro x1 x2 S H locs ls hP hS hl hf
      have hf : bX6_narrows_127  (lp (fun k q => bX6_narrows_127  k q.1 q.2.1 q.2.2) n) x1 x2 S = some (r, S') := hf
      generalize lp (fun k q => bX6_narrows_127  k q.1 q.2.1 q.2.2) n = k127 at hf ih127
      unfold bX6_narrows_127 at hf
      refine lv_iload_n hx hb dX6_narrows_127 rfl (lv_at hl 2 rfl) ?_
      refine lv_aload_n hx hb dX6_narrows_128 rfl (lv_at hl 0 rfl) ?_
      refine gfX6_5 hx hb hts (fun _ h => List.mem_cons_of_mem _ (List.mem_append_right _ h)) hown hK hP (hts (Cond.fieldLink RX6 68 "WhoSpeaksModel" "paragraphs" "I") (List.mem_of_getElem? (i := 1) rfl)) dX6_narrows_129 ?_
      refine lv_icmp_ge (tgt := 153) hx hb dX6_narrows_132 (by decide) (fun c94 => ?_) (fun c94 => ?_)
      · have hf := (if_pos c94).symm.trans hf
        refine lv_iload_n hx hb dX6_narrows_153 rfl (lv_at hl 1 rfl) ?_
        obtain ⟨he, hS9⟩ := Prod.mk.inj (Option.some.inj hf)
        subst hS9
        exact rZ hx hb hr (bi_nar x1) hP hS (congrArg bi he) hlocks dX6_narrows_154
      · have hf := (if_neg c94).symm.trans hf
        refine lv_aload_n hx hb dX6_narrows_135 rfl (lv_at hl 0 rfl) ?_
        refine gfX6_14 hx hb hts (fun _ h => List.mem_cons_of_mem _ (List.mem_append_right _ h)) hown hK hP (hts (Cond.fieldLink RX6 42 "WhoSpeaksModel" "narrowed" "[I") (List.mem_of_getElem? (i := 3) rfl)) dX6_narrows_136 ?_
        refine lv_iload_n hx hb dX6_narrows_139 rfl (lv_at hl 2 rfl) ?_
        refine lv_aload_n hx hb dX6_narrows_140 rfl (lv_at hl 0 rfl) ?_
        refine gfX6_15 hx hb hts (fun _ h => List.mem_cons_of_mem _ (List.mem_append_right _ h)) hown hK hP (hts (Cond.fieldLink RX6 45 "WhoSpeaksModel" "then" "[I") (List.mem_of_getElem? (i := 2) rfl)) dX6_narrows_141 ?_
        refine lv_iload_n hx hb dX6_narrows_144 rfl (lv_at hl 2 rfl) ?_
        obtain ⟨c95, hf⟩ := ck_some hf
        refine alM11 hx hb hK hP c95 dX6_narrows_145 ?_
        obtain ⟨c97, hf⟩ := ck_some hf
        refine asM10 (v := (ma S 11 x2.toNatClampNeg)) hx hb hK hP hD hS c97 dX6_narrows_146 (fun S96 eS96 H locs hP hS => ?_)
        have hf := bnd_of eS96 hf
        refine lv_iinc (v := (x2 + 1)) (lv' := [(2, .int (x2 + 1)), (0, .ref (ad 0)), (1, .int (bi x1))]) hx hb dX6_narrows_147 hl (k := 2) rfl rfl (by decide) rfl (fun ls hl => ?_)
        refine lv_goto (tgt := 127) hx hb dX6_narrows_150 (by decide) ?_
        exact ih127 (x1) ((x2 + 1)) S96 H locs ls hP hS (lv_sub hl [1, 2, 0] rfl) hf
  have K90 : ∀ (k4 : Bool × Int32 × MS → Option (Bool × MS)), (∀ (x1 : Bool) (x2 : Int32) (S : MS) (H : Heap) (locs : List Loc) (ls : Array Slot), va_P D vwCl (wM cy ad S) H → va_S A s.heap H locs → lv_has ls 3 [(0, .ref (ad 0)), (1, .int (bi x1)), (2, .int x2)] → k4 (x1, x2, S) = some (r, S') → W p l e (headSpec wsX6_narrows { frames := 3, cells := 0, slots := 0, locals := 66 }).room s m args below meth c H locs 0 0 (MQ below (QcI D A (bi r) (wM cy ad S')) args s 0 0 A) (F0 m 4 ls [])) → ∀ (x1 : Bool) (x2 : Int32) (s1 : Int32) (s3 : Int32) (s4 : Int32) (s5 : Int32) (S : MS) (H : Heap) (locs : List Loc) (ls : Array Slot), va_P D vwCl (wM cy ad S) H → va_S A s.heap H locs → lv_has ls 3 [(0, .ref (ad 0)), (1, .int (bi x1)), (2, .int x2)] → bX6_narrows_90 k4 x1 x2 s1 s3 s4 s5 S = some (r, S') → W p l e (headSpec wsX6_narrows { frames := 3, cells := 0, slots := 0, locals := 66 }).room s m args below meth c H locs 0 0 (MQ below (QcI D A (bi r) (wM cy ad S')) args s 0 0 A) (F0 m 90 ls [.int s5, .int s4, .int s3, .ref (ad 0), .int s1, .ref (ad 11)]) := by
    intro k4 ih4 x1 x2 s1 s3 s4 s5 S H locs ls hP hS hl hf
    unfold bX6_narrows_90 at hf
    obtain ⟨r98, h99, hf⟩ := ob1_some hf
    refine kVi (As := [.int s3, .int s4, .int s5]) (rest := [.int s1, .ref (ad 11)]) ⟨hx, hb, hml, hown, hts⟩ (okX6_by l D cy ad A hD s3 s4 s5 S r98 h99) (cwV 3 hts gX6_narrows_X6_by rfl rfl rfl (by decide +kernel) ⟨Nat.le_of_ble_eq_true rfl, Nat.le_of_ble_eq_true rfl⟩) hK hP hS (va_recv hK.1 hP (ci := 6) (q := (RX6, TX6, 21)) rfl (atM0 cy ad S)) rfl hl.1 rfl (Nat.le_of_ble_eq_true rfl) dX6_narrows_90 (fun H locs hP hS => ?_)
    obtain ⟨c101, hf⟩ := ck_some hf
    refine asM11 (v := r98) hx hb hK hP hD hS c101 dX6_narrows_93 (fun S100 eS100 H locs hP hS => ?_)
    have hf := bnd_of eS100 hf
    refine lv_iload_n hx hb dX6_narrows_94 rfl (lv_at hl 1 rfl) ?_
    refine lv_if_ne (tgt := 113) hx hb dX6_narrows_95 (by decide) (fun c102 => ?_) (fun c102 => ?_)
    · have hf := (if_neg c102).symm.trans hf
      refine lv_iconst (v := 1) hx hb dX6_narrows_113 (by decide) ?_
      refine lv_goto (tgt := 118) hx hb dX6_narrows_114 (by decide) ?_
      refine lv_istore_n (lv' := [(1, .int 1), (0, .ref (ad 0)), (2, .int x2)]) hx hb dX6_narrows_118 rfl hl (by decide) rfl (fun ls hl => ?_)
      refine lv_iinc (v := (x2 + 1)) (lv' := [(2, .int (x2 + 1)), (1, .int 1), (0, .ref (ad 0))]) hx hb dX6_narrows_119 hl (k := 2) rfl rfl (by decide) rfl (fun ls hl => ?_)
      refine lv_goto (tgt := 4) hx hb dX6_narrows_122 (by decide) ?_
      exact ih4 (true) ((x2 + 1)) S100 H locs ls hP hS (lv_sub hl [2, 1, 0] rfl) hf
    · have hf := (if_pos c102).symm.trans hf
      refine lv_aload_n hx hb dX6_narrows_98 rfl (lv_at hl 0 rfl) ?_
      refine gfX6_15 hx hb hts (fun _ h => List.mem_cons_of_mem _ (List.mem_append_right _ h)) hown hK hP (hts (Cond.fieldLink RX6 45 "WhoSpeaksModel" "then" "[I") (List.mem_of_getElem? (i := 2) rfl)) dX6_narrows_99 ?_
      refine lv_iload_n hx hb dX6_narrows_102 rfl (lv_at hl 2 rfl) ?_
      obtain ⟨c103, hf⟩ := ck_some hf
      refine alM11 hx hb hK hP c103 dX6_narrows_103 ?_
      refine lv_aload_n hx hb dX6_narrows_104 rfl (lv_at hl 0 rfl) ?_
      refine gfX6_14 hx hb hts (fun _ h => List.mem_cons_of_mem _ (List.mem_append_right _ h)) hown hK hP (hts (Cond.fieldLink RX6 42 "WhoSpeaksModel" "narrowed" "[I") (List.mem_of_getElem? (i := 3) rfl)) dX6_narrows_105 ?_
      refine lv_iload_n hx hb dX6_narrows_108 rfl (lv_at hl 2 rfl) ?_
      obtain ⟨c104, hf⟩ := ck_some hf
      refine alM10 hx hb hK hP c104 dX6_narrows_109 ?_
      refine lv_icmp_eq (tgt := 117) hx hb dX6_narrows_110 (by decide) (fun c105 => ?_) (fun c105 => ?_)
      · have hf := (if_pos c105).symm.trans hf
        refine lv_iconst (v := 0) hx hb dX6_narrows_117 (by decide) ?_
        refine lv_istore_n (lv' := [(1, .int 0), (0, .ref (ad 0)), (2, .int x2)]) hx hb dX6_narrows_118 rfl hl (by decide) rfl (fun ls hl => ?_)
        refine lv_iinc (v := (x2 + 1)) (lv' := [(2, .int (x2 + 1)), (1, .int 0), (0, .ref (ad 0))]) hx hb dX6_narrows_119 hl (k := 2) rfl rfl (by decide) rfl (fun ls hl => ?_)
        refine lv_goto (tgt := 4) hx hb dX6_narrows_122 (by decide) ?_
        exact ih4 (false) ((x2 + 1)) S100 H locs ls hP hS (lv_sub hl [2, 1, 0] rfl) hf
      · have hf := (if_neg c105).symm.trans hf
        refine lv_iconst (v := 1) hx hb dX6_narrows_113 (by decide) ?_
        refine lv_goto (tgt := 118) hx hb dX6_narrows_114 (by decide) ?_
        refine lv_istore_n (lv' := [(1, .int 1), (0, .ref (ad 0)), (2, .int x2)]) hx hb dX6_narrows_118 rfl hl (by decide) rfl (fun ls hl => ?_)
        refine lv_iinc (v := (x2 + 1)) (lv' := [(2, .int (x2 + 1)), (1, .int 1), (0, .ref (ad 0))]) hx hb dX6_narrows_119 hl (k := 2) rfl rfl (by decide) rfl (fun ls hl => ?_)
        refine lv_goto (tgt := 4) hx hb dX6_narrows_122 (by decide) ?_
        exact ih4 (true) ((x2 + 1)) S100 H locs ls hP hS (lv_sub hl [2, 1, 0] rfl) hf
  have K45 : ∀ (k4 : Bool × Int32 × MS → Option (Bool × MS)), (∀ (x1 : Bool) (x2 : Int32) (S : MS) (H : Heap) (locs : List Loc) (ls : Array Slot), va_P D vwCl (wM cy ad S) H → va_S A s.heap H locs → lv_has ls 3 [(0, .ref (ad 0)), (1, .int (bi x1)), (2, .int x2)] → k4 (x1, x2, S) = some (r, S') → W p l e (headSpec wsX6_narrows { frames := 3, cells := 0, slots := 0, locals := 66 }).room s m args below meth c H locs 0 0 (MQ below (QcI D A (bi r) (wM cy ad S')) args s 0 0 A) (F0 m 4 ls [])) → ∀ (x1 : Bool) (x2 : Int32) (s1 : Int32) (s3 : Int32) (s4 : Int32) (s5 : Int32) (S : MS) (H : Heap) (locs : List Loc) (ls : Array Slot), va_P D vwCl (wM cy ad S) H → va_S A s.heap H locs → lv_has ls 3 [(0, .ref (ad 0)), (1, .int (bi x1)), (2, .int x2)] → bX6_narrows_45 k4 x1 x2 s1 s3 s4 s5 S = some (r, S') → W p l e (headSpec wsX6_narrows { frames := 3, cells := 0, slots := 0, locals := 66 }).room s m args below meth c H locs 0 0 (MQ below (QcI D A (bi r) (wM cy ad S')) args s 0 0 A) (F0 m 45 ls [.int s5, .int s4, .int s3, .ref (ad 0), .int s1, .ref (ad 11)]) := by
    intro k4 ih4 x1 x2 s1 s3 s4 s5 S H locs ls hP hS hl hf
    unfold bX6_narrows_45 at hf
    obtain ⟨r106, h107, hf⟩ := ob1_some hf
    refine kVi (As := [.int s3, .int s4, .int s5]) (rest := [.int s1, .ref (ad 11)]) ⟨hx, hb, hml, hown, hts⟩ (okX6_by l D cy ad A hD s3 s4 s5 S r106 h107) (cwV 3 hts gX6_narrows_X6_by rfl rfl rfl (by decide +kernel) ⟨Nat.le_of_ble_eq_true rfl, Nat.le_of_ble_eq_true rfl⟩) hK hP hS (va_recv hK.1 hP (ci := 6) (q := (RX6, TX6, 21)) rfl (atM0 cy ad S)) rfl hl.1 rfl (Nat.le_of_ble_eq_true rfl) dX6_narrows_45 (fun H locs hP hS => ?_)
    obtain ⟨c109, hf⟩ := ck_some hf
    refine asM11 (v := r106) hx hb hK hP hD hS c109 dX6_narrows_48 (fun S108 eS108 H locs hP hS => ?_)
    have hf := bnd_of eS108 hf
    refine lv_aload_n hx hb dX6_narrows_49 rfl (lv_at hl 0 rfl) ?_
    refine gfX6_15 hx hb hts (fun _ h => List.mem_cons_of_mem _ (List.mem_append_right _ h)) hown hK hP (hts (Cond.fieldLink RX6 45 "WhoSpeaksModel" "then" "[I") (List.mem_of_getElem? (i := 2) rfl)) dX6_narrows_50 ?_
    refine lv_iload_n hx hb dX6_narrows_53 rfl (lv_at hl 2 rfl) ?_
    refine lv_aload_n hx hb dX6_narrows_54 rfl (lv_at hl 0 rfl) ?_
    refine lv_aload_n hx hb dX6_narrows_55 rfl (lv_at hl 0 rfl) ?_
    refine gfX6_15 hx hb hts (fun _ h => List.mem_cons_of_mem _ (List.mem_append_right _ h)) hown hK hP (hts (Cond.fieldLink RX6 45 "WhoSpeaksModel" "then" "[I") (List.mem_of_getElem? (i := 2) rfl)) dX6_narrows_56 ?_
    refine lv_iload_n hx hb dX6_narrows_59 rfl (lv_at hl 2 rfl) ?_
    obtain ⟨c110, hf⟩ := ck_some hf
    refine alM11 hx hb hK hP c110 dX6_narrows_60 ?_
    refine lv_aload_n hx hb dX6_narrows_61 rfl (lv_at hl 0 rfl) ?_
    refine lv_iload_n hx hb dX6_narrows_62 rfl (lv_at hl 2 rfl) ?_
    refine lv_iconst (v := 1) hx hb dX6_narrows_63 (by decide) ?_
    refine lv_iadd hx hb dX6_narrows_64 ?_
    obtain ⟨r111, h112, hf⟩ := ob1_some hf
    refine kVi (As := [.int (x2 + 1)]) (rest := [.int (ma S108 11 x2.toNatClampNeg), .ref (ad 0), .int x2, .ref (ad 11)]) ⟨hx, hb, hml, hown, hts⟩ (okX6_linkAt l D cy ad A hD (x2 + 1) S108 r111 h112) (cwV 1 hts gX6_narrows_X6_linkAt rfl rfl rfl (by decide +kernel) ⟨Nat.le_of_ble_eq_true rfl, Nat.le_of_ble_eq_true rfl⟩) hK hP hS (va_recv hK.1 hP (ci := 6) (q := (RX6, TX6, 21)) rfl (atM0 cy ad S108)) rfl hl.1 rfl (Nat.le_of_ble_eq_true rfl) dX6_narrows_65 (fun H locs hP hS => ?_)
    refine lv_iload_n hx hb dX6_narrows_68 rfl (lv_at hl 2 rfl) ?_
    refine lv_iconst (v := 1) hx hb dX6_narrows_69 (by decide) ?_
    refine lv_iadd hx hb dX6_narrows_70 ?_
    refine lv_aload_n hx hb dX6_narrows_71 rfl (lv_at hl 0 rfl) ?_
    refine gfX6_5 hx hb hts (fun _ h => List.mem_cons_of_mem _ (List.mem_append_right _ h)) hown hK hP (hts (Cond.fieldLink RX6 68 "WhoSpeaksModel" "paragraphs" "I") (List.mem_of_getElem? (i := 1) rfl)) dX6_narrows_72 ?_
    refine lv_icmp_ge (tgt := 89) hx hb dX6_narrows_75 (by decide) (fun c113 => ?_) (fun c113 => ?_)
    · have hf := (if_pos c113).symm.trans hf
      refine lv_iconst (v := 0) hx hb dX6_narrows_89 (by decide) ?_
      exact K90 k4 ih4 (x1) (x2) (x2) ((ma S108 11 x2.toNatClampNeg)) (r111) (0) S108 H locs ls hP hS (lv_sub hl [0, 1, 2] rfl) hf
    · have hf := (if_neg c113).symm.trans hf
      refine lv_aload_n hx hb dX6_narrows_78 rfl (lv_at hl 0 rfl) ?_
      refine gfX6_14 hx hb hts (fun _ h => List.mem_cons_of_mem _ (List.mem_append_right _ h)) hown hK hP (hts (Cond.fieldLink RX6 42 "WhoSpeaksModel" "narrowed" "[I") (List.mem_of_getElem? (i := 3) rfl)) dX6_narrows_79 ?_
      refine lv_iload_n hx hb dX6_narrows_82 rfl (lv_at hl 2 rfl) ?_
      refine lv_iconst (v := 1) hx hb dX6_narrows_83 (by decide) ?_
      refine lv_iadd hx hb dX6_narrows_84 ?_
      obtain ⟨c114, hf⟩ := ck_some hf
      refine alM10 hx hb hK hP c114 dX6_narrows_85 ?_
      refine lv_goto (tgt := 90) hx hb dX6_narrows_86 (by decide) ?_
      exact K90 k4 ih4 (x1) (x2) (x2) ((ma S108 11 x2.toNatClampNeg)) (r111) ((ma S108 10 (x2 + 1).toNatClampNeg)) S108 H locs ls hP hS (lv_sub hl [0, 1, 2] rfl) hf
  have K4 : ∀ (n : Nat), ∀ (x1 : Bool) (x2 : Int32) (S : MS) (H : Heap) (locs : List Loc) (ls : Array Slot), va_P D vwCl (wM cy ad S) H → va_S A s.heap H locs → lv_has ls 3 [(0, .ref (ad 0)), (1, .int (bi x1)), (2, .int x2)] → lp (fun k q => bX6_narrows_4  k q.1 q.2.1 q.2.2) n (x1, x2, S) = some (r, S') → W p l e (headSpec wsX6_narrows { frames := 3, cells := 0, slots := 0, locals := 66 }).room s m args below meth c H locs 0 0 (MQ below (QcI D A (bi r) (wM cy ad S')) args s 0 0 A) (F0 m 4 ls []) := by
    intro  n
    induction n with
    | zero =>
      intro x1 x2 S H locs ls hP hS hl hf
      cases hf
    | succ n ih4 =>
      intro x1 x2 S H locs ls hP hS hl hf
      have hf : bX6_narrows_4  (lp (fun k q => bX6_narrows_4  k q.1 q.2.1 q.2.2) n) x1 x2 S = some (r, S') := hf
      generalize lp (fun k q => bX6_narrows_4  k q.1 q.2.1 q.2.2) n = k4 at hf ih4
      unfold bX6_narrows_4 at hf
      refine lv_iload_n hx hb dX6_narrows_4 rfl (lv_at hl 2 rfl) ?_
      refine lv_aload_n hx hb dX6_narrows_5 rfl (lv_at hl 0 rfl) ?_
      refine gfX6_5 hx hb hts (fun _ h => List.mem_cons_of_mem _ (List.mem_append_right _ h)) hown hK hP (hts (Cond.fieldLink RX6 68 "WhoSpeaksModel" "paragraphs" "I") (List.mem_of_getElem? (i := 1) rfl)) dX6_narrows_6 ?_
      refine lv_icmp_ge (tgt := 125) hx hb dX6_narrows_9 (by decide) (fun c115 => ?_) (fun c115 => ?_)
      · have hf := (if_pos c115).symm.trans hf
        refine lv_iconst (v := 0) hx hb dX6_narrows_125 (by decide) ?_
        refine lv_istore_n (lv' := [(2, .int 0), (0, .ref (ad 0)), (1, .int (bi x1))]) hx hb dX6_narrows_126 rfl hl (by decide) rfl (fun ls hl => ?_)
        exact K127  FU (x1) (0) S H locs ls hP hS (lv_sub hl [1, 2, 0] rfl) hf
      · have hf := (if_neg c115).symm.trans hf
        refine lv_aload_n hx hb dX6_narrows_12 rfl (lv_at hl 0 rfl) ?_
        refine gfX6_15 hx hb hts (fun _ h => List.mem_cons_of_mem _ (List.mem_append_right _ h)) hown hK hP (hts (Cond.fieldLink RX6 45 "WhoSpeaksModel" "then" "[I") (List.mem_of_getElem? (i := 2) rfl)) dX6_narrows_13 ?_
        refine lv_iload_n hx hb dX6_narrows_16 rfl (lv_at hl 2 rfl) ?_
        refine lv_aload_n hx hb dX6_narrows_17 rfl (lv_at hl 0 rfl) ?_
        refine lv_aload_n hx hb dX6_narrows_18 rfl (lv_at hl 0 rfl) ?_
        refine gfX6_14 hx hb hts (fun _ h => List.mem_cons_of_mem _ (List.mem_append_right _ h)) hown hK hP (hts (Cond.fieldLink RX6 42 "WhoSpeaksModel" "narrowed" "[I") (List.mem_of_getElem? (i := 3) rfl)) dX6_narrows_19 ?_
        refine lv_iload_n hx hb dX6_narrows_22 rfl (lv_at hl 2 rfl) ?_
        obtain ⟨c116, hf⟩ := ck_some hf
        refine alM10 hx hb hK hP c116 dX6_narrows_23 ?_
        refine lv_aload_n hx hb dX6_narrows_24 rfl (lv_at hl 0 rfl) ?_
        refine lv_iload_n hx hb dX6_narrows_25 rfl (lv_at hl 2 rfl) ?_
        obtain ⟨r117, h118, hf⟩ := ob1_some hf
        refine kVi (As := [.int x2]) (rest := [.int (ma S 10 x2.toNatClampNeg), .ref (ad 0), .int x2, .ref (ad 11)]) ⟨hx, hb, hml, hown, hts⟩ (okX6_linkAt l D cy ad A hD x2 S r117 h118) (cwV 1 hts gX6_narrows_X6_linkAt rfl rfl rfl (by decide +kernel) ⟨Nat.le_of_ble_eq_true rfl, Nat.le_of_ble_eq_true rfl⟩) hK hP hS (va_recv hK.1 hP (ci := 6) (q := (RX6, TX6, 21)) rfl (atM0 cy ad S)) rfl hl.1 rfl (Nat.le_of_ble_eq_true rfl) dX6_narrows_26 (fun H locs hP hS => ?_)
        refine lv_iload_n hx hb dX6_narrows_29 rfl (lv_at hl 2 rfl) ?_
        refine lv_if_le (tgt := 44) hx hb dX6_narrows_30 (by decide) (fun c119 => ?_) (fun c119 => ?_)
        · have hf := (if_pos c119).symm.trans hf
          refine lv_iconst (v := 0) hx hb dX6_narrows_44 (by decide) ?_
          exact K45 k4 ih4 (x1) (x2) (x2) ((ma S 10 x2.toNatClampNeg)) (r117) (0) S H locs ls hP hS (lv_sub hl [0, 1, 2] rfl) hf
        · have hf := (if_neg c119).symm.trans hf
          refine lv_aload_n hx hb dX6_narrows_33 rfl (lv_at hl 0 rfl) ?_
          refine gfX6_14 hx hb hts (fun _ h => List.mem_cons_of_mem _ (List.mem_append_right _ h)) hown hK hP (hts (Cond.fieldLink RX6 42 "WhoSpeaksModel" "narrowed" "[I") (List.mem_of_getElem? (i := 3) rfl)) dX6_narrows_34 ?_
          refine lv_iload_n hx hb dX6_narrows_37 rfl (lv_at hl 2 rfl) ?_
          refine lv_iconst (v := 1) hx hb dX6_narrows_38 (by decide) ?_
          refine lv_isub hx hb dX6_narrows_39 ?_
          obtain ⟨c120, hf⟩ := ck_some hf
          refine alM10 hx hb hK hP c120 dX6_narrows_40 ?_
          refine lv_goto (tgt := 45) hx hb dX6_narrows_41 (by decide) ?_
          exact K45 k4 ih4 (x1) (x2) (x2) ((ma S 10 x2.toNatClampNeg)) (r117) ((ma S 10 (x2 - 1).toNatClampNeg)) S H locs ls hP hS (lv_sub hl [0, 1, 2] rfl) hf
  unfold fX6_narrows at hf
  suffices hG : ∀ (H : Heap) (locs : List Loc), va_P D vwCl (wM cy ad S) H → va_S A s.heap H locs → W p l e (headSpec wsX6_narrows { frames := 3, cells := 0, slots := 0, locals := 66 }).room s m args below meth c H locs 0 0 (MQ below (QcI D A (bi r) (wM cy ad S')) args s 0 0 A) (F0 m 0 ls []) by exact hG s.heap [] hP va_S.rf
  clear hP hS
  intro H locs hP hS
  refine lv_iconst (v := 0) hx hb dX6_narrows_0 (by decide) ?_
  refine lv_istore_n (lv' := [(1, .int 0), (0, .ref (ad 0))]) hx hb dX6_narrows_1 rfl hl (by decide) rfl (fun ls hl => ?_)
  refine lv_iconst (v := 0) hx hb dX6_narrows_2 (by decide) ?_
  refine lv_istore_n (lv' := [(2, .int 0), (1, .int 0), (0, .ref (ad 0))]) hx hb dX6_narrows_3 rfl hl (by decide) rfl (fun ls hl => ?_)
  exact K4  FU (false) (0) S H locs ls hP hS (lv_sub hl [2, 1, 0] rfl) hf

def bX6_findNarrowed_34  (k34 : Bool × MS → Option MS) (x1 : Bool) (S : MS) : Option MS := (if (bi x1) = 0 then (some S) else (ob2 (fX6_narrows  S) (fun r16 S18 => (k34 (r16, S18)))))
def bX6_findNarrowed_6  (k6 : Int32 × MS → Option MS) (x1 : Int32) (S : MS) : Option MS := (if (mi S 3) ≤ x1 then (lp (fun k q => bX6_findNarrowed_34  k q.1 q.2) FU (true, S)) else (ck x1 16 (ck x1 16 (bnd (maW S 10 x1.toNatClampNeg (ma S 9 x1.toNatClampNeg)) (fun S21 => (k6 ((x1 + 1), S21)))))))
def fX6_findNarrowed  (S : MS) : Option MS := (ob1 (fX6_findOwn  S) (fun S24 => (lp (fun k q => bX6_findNarrowed_6  k q.1 q.2) FU (0, S24))))
set_option maxHeartbeats 4000000 in
set_option maxRecDepth 100000 in
theorem okX6_findNarrowed (l : Launch) (D : va_G) (cy : Nat → ClassId) (ad : Nat → Nat) (A : Nat → Prop) (hD : ∀ S, va_D A (wM cy ad S))  (S : MS) (S' : MS) (hf : fX6_findNarrowed  S = some S') : MV l yX6_findNarrowed wsX6_findNarrowed { frames := 7, cells := 0, slots := 0, locals := 157 } D cy A (wM cy ad S) [.ref (ad 0)] (wM cy ad S') := by
  refine Met.ofW (cc := cX6_findNarrowed) (maxL := 2) (ret := none) (by decide) rfl ?_
  intro p e s m args below meth c s₁ B hml hv
  obtain ⟨ha, hP, hK⟩ := hv
  have hx := B.exec
  have hb := B.bytes
  have hr := B.returns
  have hts := atoms_spec (ws := wsX6_findNarrowed) B.pre
  have hown : s.vm.findClass RX6 = some m.cls := findClass_of_methodNamed B.named
  have hlocks := B.notSynchronized
  have hS : va_S A s.heap s.heap [] := va_S.rf
  obtain ⟨ls, hl, he0⟩ := ent (m := m) ha (n := 2) (Nat.le_of_ble_eq_true rfl)
  refine W.eq he0 ?_
  have hl : lv_has ls 2 [(0, .ref (ad 0))] := hl
  have K34 : ∀ (n : Nat), ∀ (x1 : Bool) (S : MS) (H : Heap) (locs : List Loc) (ls : Array Slot), va_P D vwCl (wM cy ad S) H → va_S A s.heap H locs → lv_has ls 2 [(0, .ref (ad 0)), (1, .int (bi x1))] → lp (fun k q => bX6_findNarrowed_34  k q.1 q.2) n (x1, S) = some S' → W p l e (headSpec wsX6_findNarrowed { frames := 7, cells := 0, slots := 0, locals := 157 }).room s m args below meth c H locs 0 0 (MQ below (QcV D A (wM cy ad S')) args s 0 0 A) (F0 m 34 ls []) := by
    intro  n
    induction n with
    | zero =>
      intro x1 S H locs ls hP hS hl hf
      cases hf
    | succ n ih34 =>
      intro x1 S H locs ls hP hS hl hf
      have hf : bX6_findNarrowed_34  (lp (fun k q => bX6_findNarrowed_34  k q.1 q.2) n) x1 S = some S' := hf
      generalize lp (fun k q => bX6_findNarrowed_34  k q.1 q.2) n = k34 at hf ih34
      unfold bX6_findNarrowed_34 at hf
      refine lv_iload_n hx hb dX6_findNarrowed_34 rfl (lv_at hl 1 rfl) ?_
      refine lv_if_eq (tgt := 46) hx hb dX6_findNarrowed_35 (by decide) (fun c15 => ?_) (fun c15 => ?_)
      · have hf := (if_pos c15).symm.trans hf
        cases hf
        exact rV hx hb hr hP hS hlocks dX6_findNarrowed_46
      · have hf := (if_neg c15).symm.trans hf
        refine lv_aload_n hx hb dX6_findNarrowed_38 rfl (lv_at hl 0 rfl) ?_
        obtain ⟨r16, S18, h17, hf⟩ := ob2_some hf
        refine kVi (As := []) (rest := []) ⟨hx, hb, hml, hown, hts⟩ (okX6_narrows l D cy ad A hD  S r16 S18 h17) (cwV 0 hts gX6_findNarrowed_X6_narrows rfl rfl rfl (by decide +kernel) ⟨Nat.le_of_ble_eq_true rfl, Nat.le_of_ble_eq_true rfl⟩) hK hP hS (va_recv hK.1 hP (ci := 6) (q := (RX6, TX6, 21)) rfl (atM0 cy ad S)) rfl hl.1 rfl (Nat.le_of_ble_eq_true rfl) dX6_findNarrowed_39 (fun H locs hP hS => ?_)
        refine lv_istore_n (lv' := [(1, .int (bi r16)), (0, .ref (ad 0))]) hx hb dX6_findNarrowed_42 rfl hl (by decide) rfl (fun ls hl => ?_)
        refine lv_goto (tgt := 34) hx hb dX6_findNarrowed_43 (by decide) ?_
        exact ih34 (r16) S18 H locs ls hP hS (lv_sub hl [1, 0] rfl) hf
  have K6 : ∀ (n : Nat), ∀ (x1 : Int32) (S : MS) (H : Heap) (locs : List Loc) (ls : Array Slot), va_P D vwCl (wM cy ad S) H → va_S A s.heap H locs → lv_has ls 2 [(0, .ref (ad 0)), (1, .int x1)] → lp (fun k q => bX6_findNarrowed_6  k q.1 q.2) n (x1, S) = some S' → W p l e (headSpec wsX6_findNarrowed { frames := 7, cells := 0, slots := 0, locals := 157 }).room s m args below meth c H locs 0 0 (MQ below (QcV D A (wM cy ad S')) args s 0 0 A) (F0 m 6 ls []) := by
    intro  n
    induction n with
    | zero =>
      intro x1 S H locs ls hP hS hl hf
      cases hf
    | succ n ih6 =>
      intro x1 S H locs ls hP hS hl hf
      have hf : bX6_findNarrowed_6  (lp (fun k q => bX6_findNarrowed_6  k q.1 q.2) n) x1 S = some S' := hf
      generalize lp (fun k q => bX6_findNarrowed_6  k q.1 q.2) n = k6 at hf ih6
      unfold bX6_findNarrowed_6 at hf
      refine lv_iload_n hx hb dX6_findNarrowed_6 rfl (lv_at hl 1 rfl) ?_
      refine lv_aload_n hx hb dX6_findNarrowed_7 rfl (lv_at hl 0 rfl) ?_
      refine gfX6_5 hx hb hts (fun _ h => List.mem_cons_of_mem _ (List.mem_append_right _ h)) hown hK hP (hts (Cond.fieldLink RX6 68 "WhoSpeaksModel" "paragraphs" "I") (List.mem_of_getElem? (i := 1) rfl)) dX6_findNarrowed_8 ?_
      refine lv_icmp_ge (tgt := 32) hx hb dX6_findNarrowed_11 (by decide) (fun c19 => ?_) (fun c19 => ?_)
      · have hf := (if_pos c19).symm.trans hf
        refine lv_iconst (v := 1) hx hb dX6_findNarrowed_32 (by decide) ?_
        refine lv_istore_n (lv' := [(1, .int 1), (0, .ref (ad 0))]) hx hb dX6_findNarrowed_33 rfl hl (by decide) rfl (fun ls hl => ?_)
        exact K34  FU (true) S H locs ls hP hS (lv_sub hl [1, 0] rfl) hf
      · have hf := (if_neg c19).symm.trans hf
        refine lv_aload_n hx hb dX6_findNarrowed_14 rfl (lv_at hl 0 rfl) ?_
        refine gfX6_14 hx hb hts (fun _ h => List.mem_cons_of_mem _ (List.mem_append_right _ h)) hown hK hP (hts (Cond.fieldLink RX6 42 "WhoSpeaksModel" "narrowed" "[I") (List.mem_of_getElem? (i := 2) rfl)) dX6_findNarrowed_15 ?_
        refine lv_iload_n hx hb dX6_findNarrowed_18 rfl (lv_at hl 1 rfl) ?_
        refine lv_aload_n hx hb dX6_findNarrowed_19 rfl (lv_at hl 0 rfl) ?_
        refine gfX6_13 hx hb hts (fun _ h => List.mem_cons_of_mem _ (List.mem_append_right _ h)) hown hK hP (hts (Cond.fieldLink RX6 39 "WhoSpeaksModel" "own" "[I") (List.mem_of_getElem? (i := 3) rfl)) dX6_findNarrowed_20 ?_
        refine lv_iload_n hx hb dX6_findNarrowed_23 rfl (lv_at hl 1 rfl) ?_
        obtain ⟨c20, hf⟩ := ck_some hf
        refine alM9 hx hb hK hP c20 dX6_findNarrowed_24 ?_
        obtain ⟨c22, hf⟩ := ck_some hf
        refine asM10 (v := (ma S 9 x1.toNatClampNeg)) hx hb hK hP hD hS c22 dX6_findNarrowed_25 (fun S21 eS21 H locs hP hS => ?_)
        have hf := bnd_of eS21 hf
        refine lv_iinc (v := (x1 + 1)) (lv' := [(1, .int (x1 + 1)), (0, .ref (ad 0))]) hx hb dX6_findNarrowed_26 hl (k := 1) rfl rfl (by decide) rfl (fun ls hl => ?_)
        refine lv_goto (tgt := 6) hx hb dX6_findNarrowed_29 (by decide) ?_
        exact ih6 ((x1 + 1)) S21 H locs ls hP hS (lv_sub hl [1, 0] rfl) hf
  unfold fX6_findNarrowed at hf
  suffices hG : ∀ (H : Heap) (locs : List Loc), va_P D vwCl (wM cy ad S) H → va_S A s.heap H locs → W p l e (headSpec wsX6_findNarrowed { frames := 7, cells := 0, slots := 0, locals := 157 }).room s m args below meth c H locs 0 0 (MQ below (QcV D A (wM cy ad S')) args s 0 0 A) (F0 m 0 ls []) by exact hG s.heap [] hP va_S.rf
  clear hP hS
  intro H locs hP hS
  refine lv_aload_n hx hb dX6_findNarrowed_0 rfl (lv_at hl 0 rfl) ?_
  obtain ⟨S24, h23, hf⟩ := ob1_some hf
  refine kVv (As := []) (rest := []) ⟨hx, hb, hml, hown, hts⟩ (okX6_findOwn l D cy ad A hD  S S24 h23) (cwV 0 hts gX6_findNarrowed_X6_findOwn rfl rfl rfl (by decide +kernel) ⟨Nat.le_of_ble_eq_true rfl, Nat.le_of_ble_eq_true rfl⟩) hK hP hS (va_recv hK.1 hP (ci := 6) (q := (RX6, TX6, 21)) rfl (atM0 cy ad S)) rfl hl.1 rfl (Nat.le_of_ble_eq_true rfl) dX6_findNarrowed_1 (fun H locs hP hS => ?_)
  refine lv_iconst (v := 0) hx hb dX6_findNarrowed_4 (by decide) ?_
  refine lv_istore_n (lv' := [(1, .int 0), (0, .ref (ad 0))]) hx hb dX6_findNarrowed_5 rfl hl (by decide) rfl (fun ls hl => ?_)
  exact K6  FU (0) S24 H locs ls hP hS (lv_sub hl [1, 0] rfl) hf

def bX6_may_24  (s0 : Bool) (s1 : Bool) : Bool := (if (bi s0) = (bi s1) then true else false)
def bX6_may_14  (x1 : Int32) (x2 : Int32) (s0 : Bool) : Bool := (if x1 = x2 then (bX6_may_24  (s0) (true)) else (bX6_may_24  (s0) (false)))
def fX6_may (p0 : Int32) (p1 : Int32) (p2 : Int32) : Bool := (if p0 = 0 then true else (if p0 = 1 then (bX6_may_14  (p1) (p2) (true)) else (bX6_may_14  (p1) (p2) (false))))
set_option maxHeartbeats 4000000 in
set_option maxRecDepth 100000 in
theorem okX6_may (l : Launch) (D : va_G) (cy : Nat → ClassId) (A : Nat → Prop) (w : va_W) (p0 : Int32) (p1 : Int32) (p2 : Int32) (r : Bool) (hf : fX6_may p0 p1 p2 = r) : MI l yX6_may wsX6_may { frames := 0, cells := 0, slots := 0, locals := 0 } D cy A w [.int p0, .int p1, .int p2] (bi r) w := by
  refine Met.ofW (cc := cX6_may) (maxL := 3) (ret := (some .boolean)) (by decide) rfl ?_
  intro p e s m args below meth c s₁ B hml hv
  obtain ⟨ha, hP, hK⟩ := hv
  have hx := B.exec
  have hb := B.bytes
  have hr := B.returns
  have hts := atoms_spec (ws := wsX6_may) B.pre
  have hown : s.vm.findClass RX6 = some m.cls := findClass_of_methodNamed B.named
  have hlocks := B.notSynchronized
  have hS : va_S A s.heap s.heap [] := va_S.rf
  obtain ⟨ls, hl, he0⟩ := ent (m := m) ha (n := 3) (Nat.le_of_ble_eq_true rfl)
  refine W.eq he0 ?_
  have hl : lv_has ls 3 [(0, .int p0), (1, .int p1), (2, .int p2)] := hl
  have K24 : ∀ (s0 : Bool) (s1 : Bool) (H : Heap) (locs : List Loc) (ls : Array Slot), va_P D vwCl w H → va_S A s.heap H locs → lv_has ls 3 [] → bX6_may_24  s0 s1 = r → W p l e (headSpec wsX6_may { frames := 0, cells := 0, slots := 0, locals := 0 }).room s m args below meth c H locs 0 0 (MQ below (QcI D A (bi r) w) args s 0 0 A) (F0 m 24 ls [.int (bi s1), .int (bi s0)]) := by
    intro  s0 s1 H locs ls hP hS hl hf
    unfold bX6_may_24 at hf
    refine lv_icmp_ne (tgt := 31) hx hb dX6_may_24 (by decide) (fun c10 => ?_) (fun c10 => ?_)
    · have hf := (if_neg c10).symm.trans hf
      refine lv_iconst (v := 0) hx hb dX6_may_31 (by decide) ?_
      have he := hf
      exact rZ hx hb hr (bi_nar false) hP hS (congrArg bi he) hlocks dX6_may_32
    · have hf := (if_pos c10).symm.trans hf
      refine lv_iconst (v := 1) hx hb dX6_may_27 (by decide) ?_
      refine lv_goto (tgt := 32) hx hb dX6_may_28 (by decide) ?_
      have he := hf
      exact rZ hx hb hr (bi_nar true) hP hS (congrArg bi he) hlocks dX6_may_32
  have K14 : ∀ (x1 : Int32) (x2 : Int32) (s0 : Bool) (H : Heap) (locs : List Loc) (ls : Array Slot), va_P D vwCl w H → va_S A s.heap H locs → lv_has ls 3 [(1, .int x1), (2, .int x2)] → bX6_may_14  x1 x2 s0 = r → W p l e (headSpec wsX6_may { frames := 0, cells := 0, slots := 0, locals := 0 }).room s m args below meth c H locs 0 0 (MQ below (QcI D A (bi r) w) args s 0 0 A) (F0 m 14 ls [.int (bi s0)]) := by
    intro  x1 x2 s0 H locs ls hP hS hl hf
    unfold bX6_may_14 at hf
    refine lv_iload_n hx hb dX6_may_14 rfl (lv_at hl 0 rfl) ?_
    refine lv_iload_n hx hb dX6_may_15 rfl (lv_at hl 1 rfl) ?_
    refine lv_icmp_ne (tgt := 23) hx hb dX6_may_16 (by decide) (fun c11 => ?_) (fun c11 => ?_)
    · have hf := (if_neg c11).symm.trans hf
      refine lv_iconst (v := 0) hx hb dX6_may_23 (by decide) ?_
      exact K24  (s0) (false) H locs ls hP hS (lv_sub hl [] rfl) hf
    · have hf := (if_pos c11).symm.trans hf
      refine lv_iconst (v := 1) hx hb dX6_may_19 (by decide) ?_
      refine lv_goto (tgt := 24) hx hb dX6_may_20 (by decide) ?_
      exact K24  (s0) (true) H locs ls hP hS (lv_sub hl [] rfl) hf
  unfold fX6_may at hf
  suffices hG : ∀ (H : Heap) (locs : List Loc), va_P D vwCl w H → va_S A s.heap H locs → W p l e (headSpec wsX6_may { frames := 0, cells := 0, slots := 0, locals := 0 }).room s m args below meth c H locs 0 0 (MQ below (QcI D A (bi r) w) args s 0 0 A) (F0 m 0 ls []) by exact hG s.heap [] hP va_S.rf
  clear hP hS
  intro H locs hP hS
  refine lv_iload_n hx hb dX6_may_0 rfl (lv_at hl 0 rfl) ?_
  refine lv_if_eq (tgt := 27) hx hb dX6_may_1 (by decide) (fun c12 => ?_) (fun c12 => ?_)
  · have hf := (if_pos c12).symm.trans hf
    refine lv_iconst (v := 1) hx hb dX6_may_27 (by decide) ?_
    refine lv_goto (tgt := 32) hx hb dX6_may_28 (by decide) ?_
    have he := hf
    exact rZ hx hb hr (bi_nar true) hP hS (congrArg bi he) hlocks dX6_may_32
  · have hf := (if_neg c12).symm.trans hf
    refine lv_iload_n hx hb dX6_may_4 rfl (lv_at hl 0 rfl) ?_
    refine lv_iconst (v := 1) hx hb dX6_may_5 (by decide) ?_
    refine lv_icmp_ne (tgt := 13) hx hb dX6_may_6 (by decide) (fun c13 => ?_) (fun c13 => ?_)
    · have hf := (if_neg c13).symm.trans hf
      refine lv_iconst (v := 0) hx hb dX6_may_13 (by decide) ?_
      exact K14  (p1) (p2) (false) H locs ls hP hS (lv_sub hl [1, 2] rfl) hf
    · have hf := (if_pos c13).symm.trans hf
      refine lv_iconst (v := 1) hx hb dX6_may_9 (by decide) ?_
      refine lv_goto (tgt := 14) hx hb dX6_may_10 (by decide) ?_
      exact K14  (p1) (p2) (true) H locs ls hP hS (lv_sub hl [1, 2] rfl) hf

def fX6_isAllowed (p0 : Int32) (p1 : Int32) (S : MS) : Option Bool := (ob1 (fX6_speaks p1 S) (fun r4 => (if (bi r4) = 0 then (if p0 = 0 then (some true) else (some false)) else (ck p1 16 (some (fX6_has (ma S 9 p1.toNatClampNeg) p0))))))
set_option maxHeartbeats 4000000 in
set_option maxRecDepth 100000 in
theorem okX6_isAllowed (l : Launch) (D : va_G) (cy : Nat → ClassId) (ad : Nat → Nat) (A : Nat → Prop) (hD : ∀ S, va_D A (wM cy ad S)) (p0 : Int32) (p1 : Int32) (S : MS) (r : Bool) (hf : fX6_isAllowed p0 p1 S = some r) : MI l yX6_isAllowed wsX6_isAllowed { frames := 2, cells := 0, slots := 0, locals := 45 } D cy A (wM cy ad S) [.ref (ad 0), .int p0, .int p1] (bi r) (wM cy ad S) := by
  refine Met.ofW (cc := cX6_isAllowed) (maxL := 3) (ret := (some .boolean)) (by decide) rfl ?_
  intro p e s m args below meth c s₁ B hml hv
  obtain ⟨ha, hP, hK⟩ := hv
  have hx := B.exec
  have hb := B.bytes
  have hr := B.returns
  have hts := atoms_spec (ws := wsX6_isAllowed) B.pre
  have hown : s.vm.findClass RX6 = some m.cls := findClass_of_methodNamed B.named
  have hlocks := B.notSynchronized
  have hS : va_S A s.heap s.heap [] := va_S.rf
  obtain ⟨ls, hl, he0⟩ := ent (m := m) ha (n := 3) (Nat.le_of_ble_eq_true rfl)
  refine W.eq he0 ?_
  have hl : lv_has ls 3 [(0, .ref (ad 0)), (1, .int p0), (2, .int p1)] := hl
  unfold fX6_isAllowed at hf
  suffices hG : ∀ (H : Heap) (locs : List Loc), va_P D vwCl (wM cy ad S) H → va_S A s.heap H locs → W p l e (headSpec wsX6_isAllowed { frames := 2, cells := 0, slots := 0, locals := 45 }).room s m args below meth c H locs 0 0 (MQ below (QcI D A (bi r) (wM cy ad S)) args s 0 0 A) (F0 m 0 ls []) by exact hG s.heap [] hP va_S.rf
  clear hP hS
  intro H locs hP hS
  refine lv_aload_n hx hb dX6_isAllowed_0 rfl (lv_at hl 0 rfl) ?_
  refine lv_iload_n hx hb dX6_isAllowed_1 rfl (lv_at hl 2 rfl) ?_
  obtain ⟨r4, h5, hf⟩ := ob1_some hf
  refine kVi (As := [.int p1]) (rest := []) ⟨hx, hb, hml, hown, hts⟩ (okX6_speaks l D cy ad A hD p1 S r4 h5) (cwV 1 hts gX6_isAllowed_X6_speaks rfl rfl rfl (by decide +kernel) ⟨Nat.le_of_ble_eq_true rfl, Nat.le_of_ble_eq_true rfl⟩) hK hP hS (va_recv hK.1 hP (ci := 6) (q := (RX6, TX6, 21)) rfl (atM0 cy ad S)) rfl hl.1 rfl (Nat.le_of_ble_eq_true rfl) dX6_isAllowed_2 (fun H locs hP hS => ?_)
  refine lv_if_ne (tgt := 20) hx hb dX6_isAllowed_5 (by decide) (fun c6 => ?_) (fun c6 => ?_)
  · have hf := (if_neg c6).symm.trans hf
    refine lv_aload_n hx hb dX6_isAllowed_20 rfl (lv_at hl 0 rfl) ?_
    refine gfX6_13 hx hb hts (fun _ h => List.mem_cons_of_mem _ (List.mem_append_right _ h)) hown hK hP (hts (Cond.fieldLink RX6 39 "WhoSpeaksModel" "own" "[I") (List.mem_of_getElem? (i := 1) rfl)) dX6_isAllowed_21 ?_
    refine lv_iload_n hx hb dX6_isAllowed_24 rfl (lv_at hl 2 rfl) ?_
    obtain ⟨c7, hf⟩ := ck_some hf
    refine alM9 hx hb hK hP c7 dX6_isAllowed_25 ?_
    refine lv_iload_n hx hb dX6_isAllowed_26 rfl (lv_at hl 1 rfl) ?_
    refine kSi (As := [.int (ma S 9 p1.toNatClampNeg), .int p0]) (rest := []) ⟨hx, hb, hml, hown, hts⟩ (okX6_has l D cy A (wM cy ad S) (ma S 9 p1.toNatClampNeg) p0 _ rfl) (va_cwS 2 hts gX6_isAllowed_X6_has rfl rfl rfl (by decide +kernel) ⟨Nat.le_of_ble_eq_true rfl, Nat.le_of_ble_eq_true rfl⟩) hK hP hS rfl hl.1 rfl (Nat.le_of_ble_eq_true rfl) dX6_isAllowed_27 (fun H locs hP hS => ?_)
    have he := Option.some.inj hf
    exact rZ hx hb hr (bi_nar (fX6_has (ma S 9 p1.toNatClampNeg) p0)) hP hS (congrArg bi he) hlocks dX6_isAllowed_30
  · have hf := (if_pos c6).symm.trans hf
    refine lv_iload_n hx hb dX6_isAllowed_8 rfl (lv_at hl 1 rfl) ?_
    refine lv_if_ne (tgt := 16) hx hb dX6_isAllowed_9 (by decide) (fun c9 => ?_) (fun c9 => ?_)
    · have hf := (if_neg c9).symm.trans hf
      refine lv_iconst (v := 0) hx hb dX6_isAllowed_16 (by decide) ?_
      refine lv_goto (tgt := 30) hx hb dX6_isAllowed_17 (by decide) ?_
      have he := Option.some.inj hf
      exact rZ hx hb hr (bi_nar false) hP hS (congrArg bi he) hlocks dX6_isAllowed_30
    · have hf := (if_pos c9).symm.trans hf
      refine lv_iconst (v := 1) hx hb dX6_isAllowed_12 (by decide) ?_
      refine lv_goto (tgt := 30) hx hb dX6_isAllowed_13 (by decide) ?_
      have he := Option.some.inj hf
      exact rZ hx hb hr (bi_nar true) hP hS (congrArg bi he) hlocks dX6_isAllowed_30

def bX6_countDown_122 (k7 : Int32 × MS → Option MS) (k13 : Int32 × Int32 × MS → Option MS) (x1 : Int32) (x2 : Int32) (s1 : Int32) (s2 : Int64) (S : MS) : Option MS := (ck s1 128 (bnd (mlW S 14 s1.toNatClampNeg s2) (fun S81 => (k13 (x1, (x2 + 1), S81)))))
def bX6_countDown_98 (k7 : Int32 × MS → Option MS) (k13 : Int32 × Int32 × MS → Option MS) (x1 : Int32) (x2 : Int32) (x3 : Int64) (S : MS) : Option MS := (ob1 (fX6_isAllowed x2 x1 S) (fun r83 => (if (bi r83) = 0 then (bX6_countDown_122 k7 k13 (x1) (x2) (((8 * x1) + x2)) (0) S) else (bX6_countDown_122 k7 k13 (x1) (x2) (((8 * x1) + x2)) (x3) S))))
def bX6_countDown_38 (k7 : Int32 × MS → Option MS) (k13 : Int32 × Int32 × MS → Option MS) (k38 : Int32 × Int32 × Int64 × Int32 × MS → Option MS) (x1 : Int32) (x2 : Int32) (x3 : Int64) (x5 : Int32) (S : MS) : Option MS := (if 8 ≤ x5 then (bX6_countDown_98 k7 k13 (x1) (x2) (x3) S) else (if ((mi S 3) - 1) ≤ x1 then (bX6_countDown_98 k7 k13 (x1) (x2) (x3) S) else (ob1 (fX6_linkAt (x1 + 1) S) (fun r88 => (if (bi (fX6_may r88 x2 x5)) = 0 then (bnd ((x3 + 0)) (fun y92 => (k38 (x1, x2, y92, (x5 + 1), S)))) else (ck ((8 * (x1 + 1)) + x5) 128 (bnd ((x3 + (ml S 14 ((8 * (x1 + 1)) + x5).toNatClampNeg))) (fun y94 => (k38 (x1, x2, y94, (x5 + 1), S))))))))))
def bX6_countDown_13 (k7 : Int32 × MS → Option MS) (k13 : Int32 × Int32 × MS → Option MS) (x1 : Int32) (x2 : Int32) (S : MS) : Option MS := (if 8 ≤ x2 then (k7 ((x1 + (-1)), S)) else (if x1 = ((mi S 3) - 1) then (lp (fun k q => bX6_countDown_38 k7 k13 k q.1 q.2.1 q.2.2.1 q.2.2.2.1 q.2.2.2.2) FU (x1, x2, 1, 0, S)) else (lp (fun k q => bX6_countDown_38 k7 k13 k q.1 q.2.1 q.2.2.1 q.2.2.2.1 q.2.2.2.2) FU (x1, x2, 0, 0, S))))
def bX6_countDown_7  (k7 : Int32 × MS → Option MS) (x1 : Int32) (S : MS) : Option MS := (if x1 < 0 then (some S) else (lp (fun k q => bX6_countDown_13 k7 k q.1 q.2.1 q.2.2) FU (x1, 0, S)))
def fX6_countDown  (S : MS) : Option MS := (bnd (((mi S 3) - 1)) (fun y98 => (lp (fun k q => bX6_countDown_7  k q.1 q.2) FU (y98, S))))
set_option maxHeartbeats 4000000 in
set_option maxRecDepth 100000 in
theorem okX6_countDown (l : Launch) (D : va_G) (cy : Nat → ClassId) (ad : Nat → Nat) (A : Nat → Prop) (hD : ∀ S, va_D A (wM cy ad S))  (S : MS) (S' : MS) (hf : fX6_countDown  S = some S') : MV l yX6_countDown wsX6_countDown { frames := 3, cells := 0, slots := 0, locals := 67 } D cy A (wM cy ad S) [.ref (ad 0)] (wM cy ad S') := by
  refine Met.ofW (cc := cX6_countDown) (maxL := 6) (ret := none) (by decide) rfl ?_
  intro p e s m args below meth c s₁ B hml hv
  obtain ⟨ha, hP, hK⟩ := hv
  have hx := B.exec
  have hb := B.bytes
  have hr := B.returns
  have hts := atoms_spec (ws := wsX6_countDown) B.pre
  have hown : s.vm.findClass RX6 = some m.cls := findClass_of_methodNamed B.named
  have hlocks := B.notSynchronized
  have hS : va_S A s.heap s.heap [] := va_S.rf
  obtain ⟨ls, hl, he0⟩ := ent (m := m) ha (n := 6) (Nat.le_of_ble_eq_true rfl)
  refine W.eq he0 ?_
  have hl : lv_has ls 6 [(0, .ref (ad 0))] := hl
  have K122 : ∀ (k7 : Int32 × MS → Option MS), (∀ (x1 : Int32) (S : MS) (H : Heap) (locs : List Loc) (ls : Array Slot), va_P D vwCl (wM cy ad S) H → va_S A s.heap H locs → lv_has ls 6 [(0, .ref (ad 0)), (1, .int x1)] → k7 (x1, S) = some S' → W p l e (headSpec wsX6_countDown { frames := 3, cells := 0, slots := 0, locals := 67 }).room s m args below meth c H locs 0 0 (MQ below (QcV D A (wM cy ad S')) args s 0 0 A) (F0 m 7 ls [])) → ∀ (k13 : Int32 × Int32 × MS → Option MS), (∀ (x1 : Int32) (x2 : Int32) (S : MS) (H : Heap) (locs : List Loc) (ls : Array Slot), va_P D vwCl (wM cy ad S) H → va_S A s.heap H locs → lv_has ls 6 [(0, .ref (ad 0)), (1, .int x1), (2, .int x2)] → k13 (x1, x2, S) = some S' → W p l e (headSpec wsX6_countDown { frames := 3, cells := 0, slots := 0, locals := 67 }).room s m args below meth c H locs 0 0 (MQ below (QcV D A (wM cy ad S')) args s 0 0 A) (F0 m 13 ls [])) → ∀ (x1 : Int32) (x2 : Int32) (s1 : Int32) (s2 : Int64) (S : MS) (H : Heap) (locs : List Loc) (ls : Array Slot), va_P D vwCl (wM cy ad S) H → va_S A s.heap H locs → lv_has ls 6 [(0, .ref (ad 0)), (1, .int x1), (2, .int x2)] → bX6_countDown_122 k7 k13 x1 x2 s1 s2 S = some S' → W p l e (headSpec wsX6_countDown { frames := 3, cells := 0, slots := 0, locals := 67 }).room s m args below meth c H locs 0 0 (MQ below (QcV D A (wM cy ad S')) args s 0 0 A) (F0 m 122 ls [.long s2, .int s1, .ref (ad 14)]) := by
    intro k7 ih7 k13 ih13 x1 x2 s1 s2 S H locs ls hP hS hl hf
    unfold bX6_countDown_122 at hf
    obtain ⟨c82, hf⟩ := ck_some hf
    refine asM14 (v := s2) hx hb hK hP hD hS c82 dX6_countDown_122 (fun S81 eS81 H locs hP hS => ?_)
    have hf := bnd_of eS81 hf
    refine lv_iinc (v := (x2 + 1)) (lv' := [(2, .int (x2 + 1)), (0, .ref (ad 0)), (1, .int x1)]) hx hb dX6_countDown_123 hl (k := 2) rfl rfl (by decide) rfl (fun ls hl => ?_)
    refine lv_goto (tgt := 13) hx hb dX6_countDown_126 (by decide) ?_
    exact ih13 (x1) ((x2 + 1)) S81 H locs ls hP hS (lv_sub hl [1, 2, 0] rfl) hf
  have K98 : ∀ (k7 : Int32 × MS → Option MS), (∀ (x1 : Int32) (S : MS) (H : Heap) (locs : List Loc) (ls : Array Slot), va_P D vwCl (wM cy ad S) H → va_S A s.heap H locs → lv_has ls 6 [(0, .ref (ad 0)), (1, .int x1)] → k7 (x1, S) = some S' → W p l e (headSpec wsX6_countDown { frames := 3, cells := 0, slots := 0, locals := 67 }).room s m args below meth c H locs 0 0 (MQ below (QcV D A (wM cy ad S')) args s 0 0 A) (F0 m 7 ls [])) → ∀ (k13 : Int32 × Int32 × MS → Option MS), (∀ (x1 : Int32) (x2 : Int32) (S : MS) (H : Heap) (locs : List Loc) (ls : Array Slot), va_P D vwCl (wM cy ad S) H → va_S A s.heap H locs → lv_has ls 6 [(0, .ref (ad 0)), (1, .int x1), (2, .int x2)] → k13 (x1, x2, S) = some S' → W p l e (headSpec wsX6_countDown { frames := 3, cells := 0, slots := 0, locals := 67 }).room s m args below meth c H locs 0 0 (MQ below (QcV D A (wM cy ad S')) args s 0 0 A) (F0 m 13 ls [])) → ∀ (x1 : Int32) (x2 : Int32) (x3 : Int64) (S : MS) (H : Heap) (locs : List Loc) (ls : Array Slot), va_P D vwCl (wM cy ad S) H → va_S A s.heap H locs → lv_has ls 6 [(0, .ref (ad 0)), (1, .int x1), (2, .int x2), (3, .long x3)] → bX6_countDown_98 k7 k13 x1 x2 x3 S = some S' → W p l e (headSpec wsX6_countDown { frames := 3, cells := 0, slots := 0, locals := 67 }).room s m args below meth c H locs 0 0 (MQ below (QcV D A (wM cy ad S')) args s 0 0 A) (F0 m 98 ls []) := by
    intro k7 ih7 k13 ih13 x1 x2 x3 S H locs ls hP hS hl hf
    unfold bX6_countDown_98 at hf
    refine lv_aload_n hx hb dX6_countDown_98 rfl (lv_at hl 0 rfl) ?_
    refine gfX6_18 hx hb hts (fun _ h => List.mem_cons_of_mem _ (List.mem_append_right _ h)) hown hK hP (hts (Cond.fieldLink RX6 55 "WhoSpeaksModel" "from" "[J") (List.mem_of_getElem? (i := 2) rfl)) dX6_countDown_99 ?_
    refine lv_bipush (v := 8) hx hb dX6_countDown_102 (by decide) ?_
    refine lv_iload_n hx hb dX6_countDown_104 rfl (lv_at hl 1 rfl) ?_
    refine lv_imul hx hb dX6_countDown_105 ?_
    refine lv_iload_n hx hb dX6_countDown_106 rfl (lv_at hl 2 rfl) ?_
    refine lv_iadd hx hb dX6_countDown_107 ?_
    refine lv_aload_n hx hb dX6_countDown_108 rfl (lv_at hl 0 rfl) ?_
    refine lv_iload_n hx hb dX6_countDown_109 rfl (lv_at hl 2 rfl) ?_
    refine lv_iload_n hx hb dX6_countDown_110 rfl (lv_at hl 1 rfl) ?_
    obtain ⟨r83, h84, hf⟩ := ob1_some hf
    refine kVi (As := [.int x2, .int x1]) (rest := [.int ((8 * x1) + x2), .ref (ad 14)]) ⟨hx, hb, hml, hown, hts⟩ (okX6_isAllowed l D cy ad A hD x2 x1 S r83 h84) (cwV 2 hts gX6_countDown_X6_isAllowed rfl rfl rfl (by decide +kernel) ⟨Nat.le_of_ble_eq_true rfl, Nat.le_of_ble_eq_true rfl⟩) hK hP hS (va_recv hK.1 hP (ci := 6) (q := (RX6, TX6, 21)) rfl (atM0 cy ad S)) rfl hl.1 rfl (Nat.le_of_ble_eq_true rfl) dX6_countDown_111 (fun H locs hP hS => ?_)
    refine lv_if_eq (tgt := 121) hx hb dX6_countDown_114 (by decide) (fun c85 => ?_) (fun c85 => ?_)
    · have hf := (if_pos c85).symm.trans hf
      refine lv_lconst (v := 0) hx hb dX6_countDown_121 (by decide) ?_
      exact K122 k7 ih7 k13 ih13 (x1) (x2) (((8 * x1) + x2)) (0) S H locs ls hP hS (lv_sub hl [0, 1, 2] rfl) hf
    · have hf := (if_neg c85).symm.trans hf
      refine lv_lload_n hx hb dX6_countDown_117 rfl (lv_at hl 3 rfl) ?_
      refine lv_goto (tgt := 122) hx hb dX6_countDown_118 (by decide) ?_
      exact K122 k7 ih7 k13 ih13 (x1) (x2) (((8 * x1) + x2)) (x3) S H locs ls hP hS (lv_sub hl [0, 1, 2] rfl) hf
  have K38 : ∀ (k7 : Int32 × MS → Option MS), (∀ (x1 : Int32) (S : MS) (H : Heap) (locs : List Loc) (ls : Array Slot), va_P D vwCl (wM cy ad S) H → va_S A s.heap H locs → lv_has ls 6 [(0, .ref (ad 0)), (1, .int x1)] → k7 (x1, S) = some S' → W p l e (headSpec wsX6_countDown { frames := 3, cells := 0, slots := 0, locals := 67 }).room s m args below meth c H locs 0 0 (MQ below (QcV D A (wM cy ad S')) args s 0 0 A) (F0 m 7 ls [])) → ∀ (k13 : Int32 × Int32 × MS → Option MS), (∀ (x1 : Int32) (x2 : Int32) (S : MS) (H : Heap) (locs : List Loc) (ls : Array Slot), va_P D vwCl (wM cy ad S) H → va_S A s.heap H locs → lv_has ls 6 [(0, .ref (ad 0)), (1, .int x1), (2, .int x2)] → k13 (x1, x2, S) = some S' → W p l e (headSpec wsX6_countDown { frames := 3, cells := 0, slots := 0, locals := 67 }).room s m args below meth c H locs 0 0 (MQ below (QcV D A (wM cy ad S')) args s 0 0 A) (F0 m 13 ls [])) → ∀ (n : Nat), ∀ (x1 : Int32) (x2 : Int32) (x3 : Int64) (x5 : Int32) (S : MS) (H : Heap) (locs : List Loc) (ls : Array Slot), va_P D vwCl (wM cy ad S) H → va_S A s.heap H locs → lv_has ls 6 [(0, .ref (ad 0)), (1, .int x1), (2, .int x2), (3, .long x3), (5, .int x5)] → lp (fun k q => bX6_countDown_38 k7 k13 k q.1 q.2.1 q.2.2.1 q.2.2.2.1 q.2.2.2.2) n (x1, x2, x3, x5, S) = some S' → W p l e (headSpec wsX6_countDown { frames := 3, cells := 0, slots := 0, locals := 67 }).room s m args below meth c H locs 0 0 (MQ below (QcV D A (wM cy ad S')) args s 0 0 A) (F0 m 38 ls []) := by
    intro k7 ih7 k13 ih13 n
    induction n with
    | zero =>
      intro x1 x2 x3 x5 S H locs ls hP hS hl hf
      cases hf
    | succ n ih38 =>
      intro x1 x2 x3 x5 S H locs ls hP hS hl hf
      have hf : bX6_countDown_38 k7 k13 (lp (fun k q => bX6_countDown_38 k7 k13 k q.1 q.2.1 q.2.2.1 q.2.2.2.1 q.2.2.2.2) n) x1 x2 x3 x5 S = some S' := hf
      generalize lp (fun k q => bX6_countDown_38 k7 k13 k q.1 q.2.1 q.2.2.1 q.2.2.2.1 q.2.2.2.2) n = k38 at hf ih38
      unfold bX6_countDown_38 at hf
      refine lv_iload hx hb dX6_countDown_38 (lv_at hl 4 rfl) ?_
      refine lv_bipush (v := 8) hx hb dX6_countDown_40 (by decide) ?_
      refine lv_icmp_ge (tgt := 98) hx hb dX6_countDown_42 (by decide) (fun c86 => ?_) (fun c86 => ?_)
      · have hf := (if_pos c86).symm.trans hf
        exact K98 k7 ih7 k13 ih13 (x1) (x2) (x3) S H locs ls hP hS (lv_sub hl [0, 1, 2, 3] rfl) hf
      · have hf := (if_neg c86).symm.trans hf
        refine lv_iload_n hx hb dX6_countDown_45 rfl (lv_at hl 1 rfl) ?_
        refine lv_aload_n hx hb dX6_countDown_46 rfl (lv_at hl 0 rfl) ?_
        refine gfX6_5 hx hb hts (fun _ h => List.mem_cons_of_mem _ (List.mem_append_right _ h)) hown hK hP (hts (Cond.fieldLink RX6 68 "WhoSpeaksModel" "paragraphs" "I") (List.mem_of_getElem? (i := 1) rfl)) dX6_countDown_47 ?_
        refine lv_iconst (v := 1) hx hb dX6_countDown_50 (by decide) ?_
        refine lv_isub hx hb dX6_countDown_51 ?_
        refine lv_icmp_ge (tgt := 98) hx hb dX6_countDown_52 (by decide) (fun c87 => ?_) (fun c87 => ?_)
        · have hf := (if_pos c87).symm.trans hf
          exact K98 k7 ih7 k13 ih13 (x1) (x2) (x3) S H locs ls hP hS (lv_sub hl [0, 1, 2, 3] rfl) hf
        · have hf := (if_neg c87).symm.trans hf
          refine lv_lload_n hx hb dX6_countDown_55 rfl (lv_at hl 3 rfl) ?_
          refine lv_aload_n hx hb dX6_countDown_56 rfl (lv_at hl 0 rfl) ?_
          refine lv_iload_n hx hb dX6_countDown_57 rfl (lv_at hl 1 rfl) ?_
          refine lv_iconst (v := 1) hx hb dX6_countDown_58 (by decide) ?_
          refine lv_iadd hx hb dX6_countDown_59 ?_
          obtain ⟨r88, h89, hf⟩ := ob1_some hf
          refine kVi (As := [.int (x1 + 1)]) (rest := [.long x3]) ⟨hx, hb, hml, hown, hts⟩ (okX6_linkAt l D cy ad A hD (x1 + 1) S r88 h89) (cwV 1 hts gX6_countDown_X6_linkAt rfl rfl rfl (by decide +kernel) ⟨Nat.le_of_ble_eq_true rfl, Nat.le_of_ble_eq_true rfl⟩) hK hP hS (va_recv hK.1 hP (ci := 6) (q := (RX6, TX6, 21)) rfl (atM0 cy ad S)) rfl hl.1 rfl (Nat.le_of_ble_eq_true rfl) dX6_countDown_60 (fun H locs hP hS => ?_)
          refine lv_iload_n hx hb dX6_countDown_63 rfl (lv_at hl 2 rfl) ?_
          refine lv_iload hx hb dX6_countDown_64 (lv_at hl 4 rfl) ?_
          refine kSi (As := [.int r88, .int x2, .int x5]) (rest := [.long x3]) ⟨hx, hb, hml, hown, hts⟩ (okX6_may l D cy A (wM cy ad S) r88 x2 x5 _ rfl) (va_cwS 3 hts gX6_countDown_X6_may rfl rfl rfl (by decide +kernel) ⟨Nat.le_of_ble_eq_true rfl, Nat.le_of_ble_eq_true rfl⟩) hK hP hS rfl hl.1 rfl (Nat.le_of_ble_eq_true rfl) dX6_countDown_66 (fun H locs hP hS => ?_)
          refine lv_if_eq (tgt := 89) hx hb dX6_countDown_69 (by decide) (fun c91 => ?_) (fun c91 => ?_)
          · have hf := (if_pos c91).symm.trans hf
            refine lv_lconst (v := 0) hx hb dX6_countDown_89 (by decide) ?_
            refine lv_ladd hx hb dX6_countDown_90 ?_
            refine lv_topl (fun y92 ey92 => ?_)
            have hf := bnd_of ey92 hf
            refine lv_lstore_n (lv' := [(3, .long y92), (0, .ref (ad 0)), (1, .int x1), (2, .int x2), (5, .int x5)]) hx hb dX6_countDown_91 rfl hl (by decide) rfl (fun ls hl => ?_)
            refine lv_iinc (v := (x5 + 1)) (lv' := [(5, .int (x5 + 1)), (3, .long y92), (0, .ref (ad 0)), (1, .int x1), (2, .int x2)]) hx hb dX6_countDown_92 hl (k := 4) rfl rfl (by decide) rfl (fun ls hl => ?_)
            refine lv_goto (tgt := 38) hx hb dX6_countDown_95 (by decide) ?_
            exact ih38 (x1) (x2) (y92) ((x5 + 1)) S H locs ls hP hS (lv_sub hl [2, 3, 4, 1, 0] rfl) hf
          · have hf := (if_neg c91).symm.trans hf
            refine lv_aload_n hx hb dX6_countDown_72 rfl (lv_at hl 0 rfl) ?_
            refine gfX6_18 hx hb hts (fun _ h => List.mem_cons_of_mem _ (List.mem_append_right _ h)) hown hK hP (hts (Cond.fieldLink RX6 55 "WhoSpeaksModel" "from" "[J") (List.mem_of_getElem? (i := 2) rfl)) dX6_countDown_73 ?_
            refine lv_bipush (v := 8) hx hb dX6_countDown_76 (by decide) ?_
            refine lv_iload_n hx hb dX6_countDown_78 rfl (lv_at hl 1 rfl) ?_
            refine lv_iconst (v := 1) hx hb dX6_countDown_79 (by decide) ?_
            refine lv_iadd hx hb dX6_countDown_80 ?_
            refine lv_imul hx hb dX6_countDown_81 ?_
            refine lv_iload hx hb dX6_countDown_82 (lv_at hl 4 rfl) ?_
            refine lv_iadd hx hb dX6_countDown_84 ?_
            obtain ⟨c93, hf⟩ := ck_some hf
            refine alM14 hx hb hK hP c93 dX6_countDown_85 ?_
            refine lv_goto (tgt := 90) hx hb dX6_countDown_86 (by decide) ?_
            refine lv_ladd hx hb dX6_countDown_90 ?_
            refine lv_topl (fun y94 ey94 => ?_)
            have hf := bnd_of ey94 hf
            refine lv_lstore_n (lv' := [(3, .long y94), (0, .ref (ad 0)), (1, .int x1), (2, .int x2), (5, .int x5)]) hx hb dX6_countDown_91 rfl hl (by decide) rfl (fun ls hl => ?_)
            refine lv_iinc (v := (x5 + 1)) (lv' := [(5, .int (x5 + 1)), (3, .long y94), (0, .ref (ad 0)), (1, .int x1), (2, .int x2)]) hx hb dX6_countDown_92 hl (k := 4) rfl rfl (by decide) rfl (fun ls hl => ?_)
            refine lv_goto (tgt := 38) hx hb dX6_countDown_95 (by decide) ?_
            exact ih38 (x1) (x2) (y94) ((x5 + 1)) S H locs ls hP hS (lv_sub hl [2, 3, 4, 1, 0] rfl) hf
  have K13 : ∀ (k7 : Int32 × MS → Option MS), (∀ (x1 : Int32) (S : MS) (H : Heap) (locs : List Loc) (ls : Array Slot), va_P D vwCl (wM cy ad S) H → va_S A s.heap H locs → lv_has ls 6 [(0, .ref (ad 0)), (1, .int x1)] → k7 (x1, S) = some S' → W p l e (headSpec wsX6_countDown { frames := 3, cells := 0, slots := 0, locals := 67 }).room s m args below meth c H locs 0 0 (MQ below (QcV D A (wM cy ad S')) args s 0 0 A) (F0 m 7 ls [])) → ∀ (n : Nat), ∀ (x1 : Int32) (x2 : Int32) (S : MS) (H : Heap) (locs : List Loc) (ls : Array Slot), va_P D vwCl (wM cy ad S) H → va_S A s.heap H locs → lv_has ls 6 [(0, .ref (ad 0)), (1, .int x1), (2, .int x2)] → lp (fun k q => bX6_countDown_13 k7 k q.1 q.2.1 q.2.2) n (x1, x2, S) = some S' → W p l e (headSpec wsX6_countDown { frames := 3, cells := 0, slots := 0, locals := 67 }).room s m args below meth c H locs 0 0 (MQ below (QcV D A (wM cy ad S')) args s 0 0 A) (F0 m 13 ls []) := by
    intro k7 ih7 n
    induction n with
    | zero =>
      intro x1 x2 S H locs ls hP hS hl hf
      cases hf
    | succ n ih13 =>
      intro x1 x2 S H locs ls hP hS hl hf
      have hf : bX6_countDown_13 k7 (lp (fun k q => bX6_countDown_13 k7 k q.1 q.2.1 q.2.2) n) x1 x2 S = some S' := hf
      generalize lp (fun k q => bX6_countDown_13 k7 k q.1 q.2.1 q.2.2) n = k13 at hf ih13
      unfold bX6_countDown_13 at hf
      refine lv_iload_n hx hb dX6_countDown_13 rfl (lv_at hl 2 rfl) ?_
      refine lv_bipush (v := 8) hx hb dX6_countDown_14 (by decide) ?_
      refine lv_icmp_ge (tgt := 129) hx hb dX6_countDown_16 (by decide) (fun c95 => ?_) (fun c95 => ?_)
      · have hf := (if_pos c95).symm.trans hf
        refine lv_iinc (v := (x1 + (-1))) (lv' := [(1, .int (x1 + (-1))), (0, .ref (ad 0)), (2, .int x2)]) hx hb dX6_countDown_129 hl (k := 1) rfl rfl (by decide) rfl (fun ls hl => ?_)
        refine lv_goto (tgt := 7) hx hb dX6_countDown_132 (by decide) ?_
        exact ih7 ((x1 + (-1))) S H locs ls hP hS (lv_sub hl [1, 0] rfl) hf
      · have hf := (if_neg c95).symm.trans hf
        refine lv_iload_n hx hb dX6_countDown_19 rfl (lv_at hl 1 rfl) ?_
        refine lv_aload_n hx hb dX6_countDown_20 rfl (lv_at hl 0 rfl) ?_
        refine gfX6_5 hx hb hts (fun _ h => List.mem_cons_of_mem _ (List.mem_append_right _ h)) hown hK hP (hts (Cond.fieldLink RX6 68 "WhoSpeaksModel" "paragraphs" "I") (List.mem_of_getElem? (i := 1) rfl)) dX6_countDown_21 ?_
        refine lv_iconst (v := 1) hx hb dX6_countDown_24 (by decide) ?_
        refine lv_isub hx hb dX6_countDown_25 ?_
        refine lv_icmp_ne (tgt := 33) hx hb dX6_countDown_26 (by decide) (fun c96 => ?_) (fun c96 => ?_)
        · have hf := (if_neg c96).symm.trans hf
          refine lv_lconst (v := 0) hx hb dX6_countDown_33 (by decide) ?_
          refine lv_lstore_n (lv' := [(3, .long 0), (0, .ref (ad 0)), (1, .int x1), (2, .int x2)]) hx hb dX6_countDown_34 rfl hl (by decide) rfl (fun ls hl => ?_)
          refine lv_iconst (v := 0) hx hb dX6_countDown_35 (by decide) ?_
          refine lv_istore (lv' := [(5, .int 0), (3, .long 0), (0, .ref (ad 0)), (1, .int x1), (2, .int x2)]) hx hb dX6_countDown_36 hl (by decide) rfl (fun ls hl => ?_)
          exact K38 k7 ih7 k13 ih13 FU (x1) (x2) (0) (0) S H locs ls hP hS (lv_sub hl [2, 3, 4, 1, 0] rfl) hf
        · have hf := (if_pos c96).symm.trans hf
          refine lv_lconst (v := 1) hx hb dX6_countDown_29 (by decide) ?_
          refine lv_goto (tgt := 34) hx hb dX6_countDown_30 (by decide) ?_
          refine lv_lstore_n (lv' := [(3, .long 1), (0, .ref (ad 0)), (1, .int x1), (2, .int x2)]) hx hb dX6_countDown_34 rfl hl (by decide) rfl (fun ls hl => ?_)
          refine lv_iconst (v := 0) hx hb dX6_countDown_35 (by decide) ?_
          refine lv_istore (lv' := [(5, .int 0), (3, .long 1), (0, .ref (ad 0)), (1, .int x1), (2, .int x2)]) hx hb dX6_countDown_36 hl (by decide) rfl (fun ls hl => ?_)
          exact K38 k7 ih7 k13 ih13 FU (x1) (x2) (1) (0) S H locs ls hP hS (lv_sub hl [2, 3, 4, 1, 0] rfl) hf
  have K7 : ∀ (n : Nat), ∀ (x1 : Int32) (S : MS) (H : Heap) (locs : List Loc) (ls : Array Slot), va_P D vwCl (wM cy ad S) H → va_S A s.heap H locs → lv_has ls 6 [(0, .ref (ad 0)), (1, .int x1)] → lp (fun k q => bX6_countDown_7  k q.1 q.2) n (x1, S) = some S' → W p l e (headSpec wsX6_countDown { frames := 3, cells := 0, slots := 0, locals := 67 }).room s m args below meth c H locs 0 0 (MQ below (QcV D A (wM cy ad S')) args s 0 0 A) (F0 m 7 ls []) := by
    intro  n
    induction n with
    | zero =>
      intro x1 S H locs ls hP hS hl hf
      cases hf
    | succ n ih7 =>
      intro x1 S H locs ls hP hS hl hf
      have hf : bX6_countDown_7  (lp (fun k q => bX6_countDown_7  k q.1 q.2) n) x1 S = some S' := hf
      generalize lp (fun k q => bX6_countDown_7  k q.1 q.2) n = k7 at hf ih7
      unfold bX6_countDown_7 at hf
      refine lv_iload_n hx hb dX6_countDown_7 rfl (lv_at hl 1 rfl) ?_
      refine lv_if_lt (tgt := 135) hx hb dX6_countDown_8 (by decide) (fun c97 => ?_) (fun c97 => ?_)
      · have hf := (if_pos c97).symm.trans hf
        cases hf
        exact rV hx hb hr hP hS hlocks dX6_countDown_135
      · have hf := (if_neg c97).symm.trans hf
        refine lv_iconst (v := 0) hx hb dX6_countDown_11 (by decide) ?_
        refine lv_istore_n (lv' := [(2, .int 0), (0, .ref (ad 0)), (1, .int x1)]) hx hb dX6_countDown_12 rfl hl (by decide) rfl (fun ls hl => ?_)
        exact K13 k7 ih7 FU (x1) (0) S H locs ls hP hS (lv_sub hl [1, 2, 0] rfl) hf
  unfold fX6_countDown at hf
  suffices hG : ∀ (H : Heap) (locs : List Loc), va_P D vwCl (wM cy ad S) H → va_S A s.heap H locs → W p l e (headSpec wsX6_countDown { frames := 3, cells := 0, slots := 0, locals := 67 }).room s m args below meth c H locs 0 0 (MQ below (QcV D A (wM cy ad S')) args s 0 0 A) (F0 m 0 ls []) by exact hG s.heap [] hP va_S.rf
  clear hP hS
  intro H locs hP hS
  refine lv_aload_n hx hb dX6_countDown_0 rfl (lv_at hl 0 rfl) ?_
  refine gfX6_5 hx hb hts (fun _ h => List.mem_cons_of_mem _ (List.mem_append_right _ h)) hown hK hP (hts (Cond.fieldLink RX6 68 "WhoSpeaksModel" "paragraphs" "I") (List.mem_of_getElem? (i := 1) rfl)) dX6_countDown_1 ?_
  refine lv_iconst (v := 1) hx hb dX6_countDown_4 (by decide) ?_
  refine lv_isub hx hb dX6_countDown_5 ?_
  refine lv_topi (fun y98 ey98 => ?_)
  have hf := bnd_of ey98 hf
  refine lv_istore_n (lv' := [(1, .int y98), (0, .ref (ad 0))]) hx hb dX6_countDown_6 rfl hl (by decide) rfl (fun ls hl => ?_)
  exact K7  FU (y98) S H locs ls hP hS (lv_sub hl [1, 0] rfl) hf

def bX6_countUp_127 (k5 : Int32 × Int32 × Int64 × Int32 × MS → Option (Int64 × MS)) (k16 : Int32 × Int32 × Int64 × Int32 × Int32 × MS → Option (Int64 × MS)) (x1 : Int32) (x2 : Int32) (x3 : Int64) (x5 : Int32) (x6 : Int32) (s1 : Int32) (s2 : Int64) (S : MS) : Option (Int64 × MS) := (ck s1 128 (bnd (mlW S 13 s1.toNatClampNeg s2) (fun S80 => (ck ((8 * x5) + x6) 128 (bnd ((x3 + (ml S80 13 ((8 * x5) + x6).toNatClampNeg))) (fun y83 => (k16 (x1, x2, y83, x5, (x6 + 1), S80))))))))
def bX6_countUp_98 (k5 : Int32 × Int32 × Int64 × Int32 × MS → Option (Int64 × MS)) (k16 : Int32 × Int32 × Int64 × Int32 × Int32 × MS → Option (Int64 × MS)) (x1 : Int32) (x2 : Int32) (x3 : Int64) (x5 : Int32) (x6 : Int32) (x7 : Int64) (S : MS) : Option (Int64 × MS) := (ob1 (fX6_isAllowed x6 x5 S) (fun r84 => (if (bi r84) = 0 then (bX6_countUp_127 k5 k16 (x1) (x2) (x3) (x5) (x6) (((8 * x5) + x6)) (0) S) else (bX6_countUp_127 k5 k16 (x1) (x2) (x3) (x5) (x6) (((8 * x5) + x6)) (x7) S))))
def bX6_countUp_39 (k5 : Int32 × Int32 × Int64 × Int32 × MS → Option (Int64 × MS)) (k16 : Int32 × Int32 × Int64 × Int32 × Int32 × MS → Option (Int64 × MS)) (k39 : Int32 × Int32 × Int64 × Int32 × Int32 × Int64 × Int32 × MS → Option (Int64 × MS)) (x1 : Int32) (x2 : Int32) (x3 : Int64) (x5 : Int32) (x6 : Int32) (x7 : Int64) (x9 : Int32) (S : MS) : Option (Int64 × MS) := (if 8 ≤ x9 then (bX6_countUp_98 k5 k16 (x1) (x2) (x3) (x5) (x6) (x7) S) else (if x5 ≤ x1 then (bX6_countUp_98 k5 k16 (x1) (x2) (x3) (x5) (x6) (x7) S) else (ob1 (fX6_linkAt x5 S) (fun r89 => (if (bi (fX6_may r89 x6 x9)) = 0 then (bnd ((x7 + 0)) (fun y93 => (k39 (x1, x2, x3, x5, x6, y93, (x9 + 1), S)))) else (ck ((8 * (x5 - 1)) + x9) 128 (bnd ((x7 + (ml S 13 ((8 * (x5 - 1)) + x9).toNatClampNeg))) (fun y95 => (k39 (x1, x2, x3, x5, x6, y95, (x9 + 1), S))))))))))
def bX6_countUp_16 (k5 : Int32 × Int32 × Int64 × Int32 × MS → Option (Int64 × MS)) (k16 : Int32 × Int32 × Int64 × Int32 × Int32 × MS → Option (Int64 × MS)) (x1 : Int32) (x2 : Int32) (x3 : Int64) (x5 : Int32) (x6 : Int32) (S : MS) : Option (Int64 × MS) := (if 8 ≤ x6 then (k5 (x1, x2, x3, (x5 + 1), S)) else (if x5 = x1 then (lp (fun k q => bX6_countUp_39 k5 k16 k q.1 q.2.1 q.2.2.1 q.2.2.2.1 q.2.2.2.2.1 q.2.2.2.2.2.1 q.2.2.2.2.2.2.1 q.2.2.2.2.2.2.2) FU (x1, x2, x3, x5, x6, 1, 0, S)) else (lp (fun k q => bX6_countUp_39 k5 k16 k q.1 q.2.1 q.2.2.1 q.2.2.2.1 q.2.2.2.2.1 q.2.2.2.2.2.1 q.2.2.2.2.2.2.1 q.2.2.2.2.2.2.2) FU (x1, x2, x3, x5, x6, 0, 0, S))))
def bX6_countUp_5  (k5 : Int32 × Int32 × Int64 × Int32 × MS → Option (Int64 × MS)) (x1 : Int32) (x2 : Int32) (x3 : Int64) (x5 : Int32) (S : MS) : Option (Int64 × MS) := (if x2 < x5 then (some (x3, S)) else (lp (fun k q => bX6_countUp_16 k5 k q.1 q.2.1 q.2.2.1 q.2.2.2.1 q.2.2.2.2.1 q.2.2.2.2.2) FU (x1, x2, 0, x5, 0, S)))
def fX6_countUp (p0 : Int32) (p1 : Int32) (S : MS) : Option (Int64 × MS) := (lp (fun k q => bX6_countUp_5  k q.1 q.2.1 q.2.2.1 q.2.2.2.1 q.2.2.2.2) FU (p0, p1, 1, p0, S))
set_option maxHeartbeats 4000000 in
set_option maxRecDepth 100000 in
theorem okX6_countUp (l : Launch) (D : va_G) (cy : Nat → ClassId) (ad : Nat → Nat) (A : Nat → Prop) (hD : ∀ S, va_D A (wM cy ad S)) (p0 : Int32) (p1 : Int32) (S : MS) (r : Int64) (S' : MS) (hf : fX6_countUp p0 p1 S = some (r, S')) : ML l yX6_countUp wsX6_countUp { frames := 3, cells := 0, slots := 0, locals := 67 } D cy A (wM cy ad S) [.ref (ad 0), .int p0, .int p1] r (wM cy ad S') := by
  refine Met.ofW (cc := cX6_countUp) (maxL := 10) (ret := (some .long)) (by decide) rfl ?_
  intro p e s m args below meth c s₁ B hml hv
  obtain ⟨ha, hP, hK⟩ := hv
  have hx := B.exec
  have hb := B.bytes
  have hr := B.returns
  have hts := atoms_spec (ws := wsX6_countUp) B.pre
  have hown : s.vm.findClass RX6 = some m.cls := findClass_of_methodNamed B.named
  have hlocks := B.notSynchronized
  have hS : va_S A s.heap s.heap [] := va_S.rf
  obtain ⟨ls, hl, he0⟩ := ent (m := m) ha (n := 10) (Nat.le_of_ble_eq_true rfl)
  refine W.eq he0 ?_
  have hl : lv_has ls 10 [(0, .ref (ad 0)), (1, .int p0), (2, .int p1)] := hl
  have K127 : ∀ (k5 : Int32 × Int32 × Int64 × Int32 × MS → Option (Int64 × MS)), (∀ (x1 : Int32) (x2 : Int32) (x3 : Int64) (x5 : Int32) (S : MS) (H : Heap) (locs : List Loc) (ls : Array Slot), va_P D vwCl (wM cy ad S) H → va_S A s.heap H locs → lv_has ls 10 [(0, .ref (ad 0)), (1, .int x1), (2, .int x2), (3, .long x3), (5, .int x5)] → k5 (x1, x2, x3, x5, S) = some (r, S') → W p l e (headSpec wsX6_countUp { frames := 3, cells := 0, slots := 0, locals := 67 }).room s m args below meth c H locs 0 0 (MQ below (QcL D A r (wM cy ad S')) args s 0 0 A) (F0 m 5 ls [])) → ∀ (k16 : Int32 × Int32 × Int64 × Int32 × Int32 × MS → Option (Int64 × MS)), (∀ (x1 : Int32) (x2 : Int32) (x3 : Int64) (x5 : Int32) (x6 : Int32) (S : MS) (H : Heap) (locs : List Loc) (ls : Array Slot), va_P D vwCl (wM cy ad S) H → va_S A s.heap H locs → lv_has ls 10 [(0, .ref (ad 0)), (1, .int x1), (2, .int x2), (3, .long x3), (5, .int x5), (6, .int x6)] → k16 (x1, x2, x3, x5, x6, S) = some (r, S') → W p l e (headSpec wsX6_countUp { frames := 3, cells := 0, slots := 0, locals := 67 }).room s m args below meth c H locs 0 0 (MQ below (QcL D A r (wM cy ad S')) args s 0 0 A) (F0 m 16 ls [])) → ∀ (x1 : Int32) (x2 : Int32) (x3 : Int64) (x5 : Int32) (x6 : Int32) (s1 : Int32) (s2 : Int64) (S : MS) (H : Heap) (locs : List Loc) (ls : Array Slot), va_P D vwCl (wM cy ad S) H → va_S A s.heap H locs → lv_has ls 10 [(0, .ref (ad 0)), (1, .int x1), (2, .int x2), (3, .long x3), (5, .int x5), (6, .int x6)] → bX6_countUp_127 k5 k16 x1 x2 x3 x5 x6 s1 s2 S = some (r, S') → W p l e (headSpec wsX6_countUp { frames := 3, cells := 0, slots := 0, locals := 67 }).room s m args below meth c H locs 0 0 (MQ below (QcL D A r (wM cy ad S')) args s 0 0 A) (F0 m 127 ls [.long s2, .int s1, .ref (ad 13)]) := by
    intro k5 ih5 k16 ih16 x1 x2 x3 x5 x6 s1 s2 S H locs ls hP hS hl hf
    unfold bX6_countUp_127 at hf
    obtain ⟨c81, hf⟩ := ck_some hf
    refine asM13 (v := s2) hx hb hK hP hD hS c81 dX6_countUp_127 (fun S80 eS80 H locs hP hS => ?_)
    have hf := bnd_of eS80 hf
    refine lv_lload_n hx hb dX6_countUp_128 rfl (lv_at hl 3 rfl) ?_
    refine lv_aload_n hx hb dX6_countUp_129 rfl (lv_at hl 0 rfl) ?_
    refine gfX6_17 hx hb hts (fun _ h => List.mem_cons_of_mem _ (List.mem_append_right _ h)) hown hK hP (hts (Cond.fieldLink RX6 51 "WhoSpeaksModel" "upTo" "[J") (List.mem_of_getElem? (i := 1) rfl)) dX6_countUp_130 ?_
    refine lv_bipush (v := 8) hx hb dX6_countUp_133 (by decide) ?_
    refine lv_iload hx hb dX6_countUp_135 (lv_at hl 4 rfl) ?_
    refine lv_imul hx hb dX6_countUp_137 ?_
    refine lv_iload hx hb dX6_countUp_138 (lv_at hl 5 rfl) ?_
    refine lv_iadd hx hb dX6_countUp_140 ?_
    obtain ⟨c82, hf⟩ := ck_some hf
    refine alM13 hx hb hK hP c82 dX6_countUp_141 ?_
    refine lv_ladd hx hb dX6_countUp_142 ?_
    refine lv_topl (fun y83 ey83 => ?_)
    have hf := bnd_of ey83 hf
    refine lv_lstore_n (lv' := [(3, .long y83), (0, .ref (ad 0)), (1, .int x1), (2, .int x2), (5, .int x5), (6, .int x6)]) hx hb dX6_countUp_143 rfl hl (by decide) rfl (fun ls hl => ?_)
    refine lv_iinc (v := (x6 + 1)) (lv' := [(6, .int (x6 + 1)), (3, .long y83), (0, .ref (ad 0)), (1, .int x1), (2, .int x2), (5, .int x5)]) hx hb dX6_countUp_144 hl (k := 5) rfl rfl (by decide) rfl (fun ls hl => ?_)
    refine lv_goto (tgt := 16) hx hb dX6_countUp_147 (by decide) ?_
    exact ih16 (x1) (x2) (y83) (x5) ((x6 + 1)) S80 H locs ls hP hS (lv_sub hl [2, 3, 4, 1, 5, 0] rfl) hf
  have K98 : ∀ (k5 : Int32 × Int32 × Int64 × Int32 × MS → Option (Int64 × MS)), (∀ (x1 : Int32) (x2 : Int32) (x3 : Int64) (x5 : Int32) (S : MS) (H : Heap) (locs : List Loc) (ls : Array Slot), va_P D vwCl (wM cy ad S) H → va_S A s.heap H locs → lv_has ls 10 [(0, .ref (ad 0)), (1, .int x1), (2, .int x2), (3, .long x3), (5, .int x5)] → k5 (x1, x2, x3, x5, S) = some (r, S') → W p l e (headSpec wsX6_countUp { frames := 3, cells := 0, slots := 0, locals := 67 }).room s m args below meth c H locs 0 0 (MQ below (QcL D A r (wM cy ad S')) args s 0 0 A) (F0 m 5 ls [])) → ∀ (k16 : Int32 × Int32 × Int64 × Int32 × Int32 × MS → Option (Int64 × MS)), (∀ (x1 : Int32) (x2 : Int32) (x3 : Int64) (x5 : Int32) (x6 : Int32) (S : MS) (H : Heap) (locs : List Loc) (ls : Array Slot), va_P D vwCl (wM cy ad S) H → va_S A s.heap H locs → lv_has ls 10 [(0, .ref (ad 0)), (1, .int x1), (2, .int x2), (3, .long x3), (5, .int x5), (6, .int x6)] → k16 (x1, x2, x3, x5, x6, S) = some (r, S') → W p l e (headSpec wsX6_countUp { frames := 3, cells := 0, slots := 0, locals := 67 }).room s m args below meth c H locs 0 0 (MQ below (QcL D A r (wM cy ad S')) args s 0 0 A) (F0 m 16 ls [])) → ∀ (x1 : Int32) (x2 : Int32) (x3 : Int64) (x5 : Int32) (x6 : Int32) (x7 : Int64) (S : MS) (H : Heap) (locs : List Loc) (ls : Array Slot), va_P D vwCl (wM cy ad S) H → va_S A s.heap H locs → lv_has ls 10 [(0, .ref (ad 0)), (1, .int x1), (2, .int x2), (3, .long x3), (5, .int x5), (6, .int x6), (7, .long x7)] → bX6_countUp_98 k5 k16 x1 x2 x3 x5 x6 x7 S = some (r, S') → W p l e (headSpec wsX6_countUp { frames := 3, cells := 0, slots := 0, locals := 67 }).room s m args below meth c H locs 0 0 (MQ below (QcL D A r (wM cy ad S')) args s 0 0 A) (F0 m 98 ls []) := by
    intro k5 ih5 k16 ih16 x1 x2 x3 x5 x6 x7 S H locs ls hP hS hl hf
    unfold bX6_countUp_98 at hf
    refine lv_aload_n hx hb dX6_countUp_98 rfl (lv_at hl 0 rfl) ?_
    refine gfX6_17 hx hb hts (fun _ h => List.mem_cons_of_mem _ (List.mem_append_right _ h)) hown hK hP (hts (Cond.fieldLink RX6 51 "WhoSpeaksModel" "upTo" "[J") (List.mem_of_getElem? (i := 1) rfl)) dX6_countUp_99 ?_
    refine lv_bipush (v := 8) hx hb dX6_countUp_102 (by decide) ?_
    refine lv_iload hx hb dX6_countUp_104 (lv_at hl 4 rfl) ?_
    refine lv_imul hx hb dX6_countUp_106 ?_
    refine lv_iload hx hb dX6_countUp_107 (lv_at hl 5 rfl) ?_
    refine lv_iadd hx hb dX6_countUp_109 ?_
    refine lv_aload_n hx hb dX6_countUp_110 rfl (lv_at hl 0 rfl) ?_
    refine lv_iload hx hb dX6_countUp_111 (lv_at hl 5 rfl) ?_
    refine lv_iload hx hb dX6_countUp_113 (lv_at hl 4 rfl) ?_
    obtain ⟨r84, h85, hf⟩ := ob1_some hf
    refine kVi (As := [.int x6, .int x5]) (rest := [.int ((8 * x5) + x6), .ref (ad 13)]) ⟨hx, hb, hml, hown, hts⟩ (okX6_isAllowed l D cy ad A hD x6 x5 S r84 h85) (cwV 2 hts gX6_countUp_X6_isAllowed rfl rfl rfl (by decide +kernel) ⟨Nat.le_of_ble_eq_true rfl, Nat.le_of_ble_eq_true rfl⟩) hK hP hS (va_recv hK.1 hP (ci := 6) (q := (RX6, TX6, 21)) rfl (atM0 cy ad S)) rfl hl.1 rfl (Nat.le_of_ble_eq_true rfl) dX6_countUp_115 (fun H locs hP hS => ?_)
    refine lv_if_eq (tgt := 126) hx hb dX6_countUp_118 (by decide) (fun c86 => ?_) (fun c86 => ?_)
    · have hf := (if_pos c86).symm.trans hf
      refine lv_lconst (v := 0) hx hb dX6_countUp_126 (by decide) ?_
      exact K127 k5 ih5 k16 ih16 (x1) (x2) (x3) (x5) (x6) (((8 * x5) + x6)) (0) S H locs ls hP hS (lv_sub hl [0, 1, 2, 3, 4, 5] rfl) hf
    · have hf := (if_neg c86).symm.trans hf
      refine lv_lload hx hb dX6_countUp_121 (lv_at hl 6 rfl) ?_
      refine lv_goto (tgt := 127) hx hb dX6_countUp_123 (by decide) ?_
      exact K127 k5 ih5 k16 ih16 (x1) (x2) (x3) (x5) (x6) (((8 * x5) + x6)) (x7) S H locs ls hP hS (lv_sub hl [0, 1, 2, 3, 4, 5] rfl) hf
  have K39 : ∀ (k5 : Int32 × Int32 × Int64 × Int32 × MS → Option (Int64 × MS)), (∀ (x1 : Int32) (x2 : Int32) (x3 : Int64) (x5 : Int32) (S : MS) (H : Heap) (locs : List Loc) (ls : Array Slot), va_P D vwCl (wM cy ad S) H → va_S A s.heap H locs → lv_has ls 10 [(0, .ref (ad 0)), (1, .int x1), (2, .int x2), (3, .long x3), (5, .int x5)] → k5 (x1, x2, x3, x5, S) = some (r, S') → W p l e (headSpec wsX6_countUp { frames := 3, cells := 0, slots := 0, locals := 67 }).room s m args below meth c H locs 0 0 (MQ below (QcL D A r (wM cy ad S')) args s 0 0 A) (F0 m 5 ls [])) → ∀ (k16 : Int32 × Int32 × Int64 × Int32 × Int32 × MS → Option (Int64 × MS)), (∀ (x1 : Int32) (x2 : Int32) (x3 : Int64) (x5 : Int32) (x6 : Int32) (S : MS) (H : Heap) (locs : List Loc) (ls : Array Slot), va_P D vwCl (wM cy ad S) H → va_S A s.heap H locs → lv_has ls 10 [(0, .ref (ad 0)), (1, .int x1), (2, .int x2), (3, .long x3), (5, .int x5), (6, .int x6)] → k16 (x1, x2, x3, x5, x6, S) = some (r, S') → W p l e (headSpec wsX6_countUp { frames := 3, cells := 0, slots := 0, locals := 67 }).room s m args below meth c H locs 0 0 (MQ below (QcL D A r (wM cy ad S')) args s 0 0 A) (F0 m 16 ls [])) → ∀ (n : Nat), ∀ (x1 : Int32) (x2 : Int32) (x3 : Int64) (x5 : Int32) (x6 : Int32) (x7 : Int64) (x9 : Int32) (S : MS) (H : Heap) (locs : List Loc) (ls : Array Slot), va_P D vwCl (wM cy ad S) H → va_S A s.heap H locs → lv_has ls 10 [(0, .ref (ad 0)), (1, .int x1), (2, .int x2), (3, .long x3), (5, .int x5), (6, .int x6), (7, .long x7), (9, .int x9)] → lp (fun k q => bX6_countUp_39 k5 k16 k q.1 q.2.1 q.2.2.1 q.2.2.2.1 q.2.2.2.2.1 q.2.2.2.2.2.1 q.2.2.2.2.2.2.1 q.2.2.2.2.2.2.2) n (x1, x2, x3, x5, x6, x7, x9, S) = some (r, S') → W p l e (headSpec wsX6_countUp { frames := 3, cells := 0, slots := 0, locals := 67 }).room s m args below meth c H locs 0 0 (MQ below (QcL D A r (wM cy ad S')) args s 0 0 A) (F0 m 39 ls []) := by
    intro k5 ih5 k16 ih16 n
    induction n with
    | zero =>
      intro x1 x2 x3 x5 x6 x7 x9 S H locs ls hP hS hl hf
      cases hf
    | succ n ih39 =>
      intro x1 x2 x3 x5 x6 x7 x9 S H locs ls hP hS hl hf
      have hf : bX6_countUp_39 k5 k16 (lp (fun k q => bX6_countUp_39 k5 k16 k q.1 q.2.1 q.2.2.1 q.2.2.2.1 q.2.2.2.2.1 q.2.2.2.2.2.1 q.2.2.2.2.2.2.1 q.2.2.2.2.2.2.2) n) x1 x2 x3 x5 x6 x7 x9 S = some (r, S') := hf
      generalize lp (fun k q => bX6_countUp_39 k5 k16 k q.1 q.2.1 q.2.2.1 q.2.2.2.1 q.2.2.2.2.1 q.2.2.2.2.2.1 q.2.2.2.2.2.2.1 q.2.2.2.2.2.2.2) n = k39 at hf ih39
      unfold bX6_countUp_39 at hf
      refine lv_iload hx hb dX6_countUp_39 (lv_at hl 7 rfl) ?_
      refine lv_bipush (v := 8) hx hb dX6_countUp_41 (by decide) ?_
      refine lv_icmp_ge (tgt := 98) hx hb dX6_countUp_43 (by decide) (fun c87 => ?_) (fun c87 => ?_)
      · have hf := (if_pos c87).symm.trans hf
        exact K98 k5 ih5 k16 ih16 (x1) (x2) (x3) (x5) (x6) (x7) S H locs ls hP hS (lv_sub hl [0, 1, 2, 3, 4, 5, 6] rfl) hf
      · have hf := (if_neg c87).symm.trans hf
        refine lv_iload hx hb dX6_countUp_46 (lv_at hl 4 rfl) ?_
        refine lv_iload_n hx hb dX6_countUp_48 rfl (lv_at hl 1 rfl) ?_
        refine lv_icmp_le (tgt := 98) hx hb dX6_countUp_49 (by decide) (fun c88 => ?_) (fun c88 => ?_)
        · have hf := (if_pos c88).symm.trans hf
          exact K98 k5 ih5 k16 ih16 (x1) (x2) (x3) (x5) (x6) (x7) S H locs ls hP hS (lv_sub hl [0, 1, 2, 3, 4, 5, 6] rfl) hf
        · have hf := (if_neg c88).symm.trans hf
          refine lv_lload hx hb dX6_countUp_52 (lv_at hl 6 rfl) ?_
          refine lv_aload_n hx hb dX6_countUp_54 rfl (lv_at hl 0 rfl) ?_
          refine lv_iload hx hb dX6_countUp_55 (lv_at hl 4 rfl) ?_
          obtain ⟨r89, h90, hf⟩ := ob1_some hf
          refine kVi (As := [.int x5]) (rest := [.long x7]) ⟨hx, hb, hml, hown, hts⟩ (okX6_linkAt l D cy ad A hD x5 S r89 h90) (cwV 1 hts gX6_countUp_X6_linkAt rfl rfl rfl (by decide +kernel) ⟨Nat.le_of_ble_eq_true rfl, Nat.le_of_ble_eq_true rfl⟩) hK hP hS (va_recv hK.1 hP (ci := 6) (q := (RX6, TX6, 21)) rfl (atM0 cy ad S)) rfl hl.1 rfl (Nat.le_of_ble_eq_true rfl) dX6_countUp_57 (fun H locs hP hS => ?_)
          refine lv_iload hx hb dX6_countUp_60 (lv_at hl 5 rfl) ?_
          refine lv_iload hx hb dX6_countUp_62 (lv_at hl 7 rfl) ?_
          refine kSi (As := [.int r89, .int x6, .int x9]) (rest := [.long x7]) ⟨hx, hb, hml, hown, hts⟩ (okX6_may l D cy A (wM cy ad S) r89 x6 x9 _ rfl) (va_cwS 3 hts gX6_countUp_X6_may rfl rfl rfl (by decide +kernel) ⟨Nat.le_of_ble_eq_true rfl, Nat.le_of_ble_eq_true rfl⟩) hK hP hS rfl hl.1 rfl (Nat.le_of_ble_eq_true rfl) dX6_countUp_64 (fun H locs hP hS => ?_)
          refine lv_if_eq (tgt := 88) hx hb dX6_countUp_67 (by decide) (fun c92 => ?_) (fun c92 => ?_)
          · have hf := (if_pos c92).symm.trans hf
            refine lv_lconst (v := 0) hx hb dX6_countUp_88 (by decide) ?_
            refine lv_ladd hx hb dX6_countUp_89 ?_
            refine lv_topl (fun y93 ey93 => ?_)
            have hf := bnd_of ey93 hf
            refine lv_lstore (lv' := [(7, .long y93), (0, .ref (ad 0)), (1, .int x1), (2, .int x2), (3, .long x3), (5, .int x5), (6, .int x6), (9, .int x9)]) hx hb dX6_countUp_90 hl (by decide) rfl (fun ls hl => ?_)
            refine lv_iinc (v := (x9 + 1)) (lv' := [(9, .int (x9 + 1)), (7, .long y93), (0, .ref (ad 0)), (1, .int x1), (2, .int x2), (3, .long x3), (5, .int x5), (6, .int x6)]) hx hb dX6_countUp_92 hl (k := 7) rfl rfl (by decide) rfl (fun ls hl => ?_)
            refine lv_goto (tgt := 39) hx hb dX6_countUp_95 (by decide) ?_
            exact ih39 (x1) (x2) (x3) (x5) (x6) (y93) ((x9 + 1)) S H locs ls hP hS (lv_sub hl [2, 3, 4, 5, 6, 7, 1, 0] rfl) hf
          · have hf := (if_neg c92).symm.trans hf
            refine lv_aload_n hx hb dX6_countUp_70 rfl (lv_at hl 0 rfl) ?_
            refine gfX6_17 hx hb hts (fun _ h => List.mem_cons_of_mem _ (List.mem_append_right _ h)) hown hK hP (hts (Cond.fieldLink RX6 51 "WhoSpeaksModel" "upTo" "[J") (List.mem_of_getElem? (i := 1) rfl)) dX6_countUp_71 ?_
            refine lv_bipush (v := 8) hx hb dX6_countUp_74 (by decide) ?_
            refine lv_iload hx hb dX6_countUp_76 (lv_at hl 4 rfl) ?_
            refine lv_iconst (v := 1) hx hb dX6_countUp_78 (by decide) ?_
            refine lv_isub hx hb dX6_countUp_79 ?_
            refine lv_imul hx hb dX6_countUp_80 ?_
            refine lv_iload hx hb dX6_countUp_81 (lv_at hl 7 rfl) ?_
            refine lv_iadd hx hb dX6_countUp_83 ?_
            obtain ⟨c94, hf⟩ := ck_some hf
            refine alM13 hx hb hK hP c94 dX6_countUp_84 ?_
            refine lv_goto (tgt := 89) hx hb dX6_countUp_85 (by decide) ?_
            refine lv_ladd hx hb dX6_countUp_89 ?_
            refine lv_topl (fun y95 ey95 => ?_)
            have hf := bnd_of ey95 hf
            refine lv_lstore (lv' := [(7, .long y95), (0, .ref (ad 0)), (1, .int x1), (2, .int x2), (3, .long x3), (5, .int x5), (6, .int x6), (9, .int x9)]) hx hb dX6_countUp_90 hl (by decide) rfl (fun ls hl => ?_)
            refine lv_iinc (v := (x9 + 1)) (lv' := [(9, .int (x9 + 1)), (7, .long y95), (0, .ref (ad 0)), (1, .int x1), (2, .int x2), (3, .long x3), (5, .int x5), (6, .int x6)]) hx hb dX6_countUp_92 hl (k := 7) rfl rfl (by decide) rfl (fun ls hl => ?_)
            refine lv_goto (tgt := 39) hx hb dX6_countUp_95 (by decide) ?_
            exact ih39 (x1) (x2) (x3) (x5) (x6) (y95) ((x9 + 1)) S H locs ls hP hS (lv_sub hl [2, 3, 4, 5, 6, 7, 1, 0] rfl) hf
  have K16 : ∀ (k5 : Int32 × Int32 × Int64 × Int32 × MS → Option (Int64 × MS)), (∀ (x1 : Int32) (x2 : Int32) (x3 : Int64) (x5 : Int32) (S : MS) (H : Heap) (locs : List Loc) (ls : Array Slot), va_P D vwCl (wM cy ad S) H → va_S A s.heap H locs → lv_has ls 10 [(0, .ref (ad 0)), (1, .int x1), (2, .int x2), (3, .long x3), (5, .int x5)] → k5 (x1, x2, x3, x5, S) = some (r, S') → W p l e (headSpec wsX6_countUp { frames := 3, cells := 0, slots := 0, locals := 67 }).room s m args below meth c H locs 0 0 (MQ below (QcL D A r (wM cy ad S')) args s 0 0 A) (F0 m 5 ls [])) → ∀ (n : Nat), ∀ (x1 : Int32) (x2 : Int32) (x3 : Int64) (x5 : Int32) (x6 : Int32) (S : MS) (H : Heap) (locs : List Loc) (ls : Array Slot), va_P D vwCl (wM cy ad S) H → va_S A s.heap H locs → lv_has ls 10 [(0, .ref (ad 0)), (1, .int x1), (2, .int x2), (3, .long x3), (5, .int x5), (6, .int x6)] → lp (fun k q => bX6_countUp_16 k5 k q.1 q.2.1 q.2.2.1 q.2.2.2.1 q.2.2.2.2.1 q.2.2.2.2.2) n (x1, x2, x3, x5, x6, S) = some (r, S') → W p l e (headSpec wsX6_countUp { frames := 3, cells := 0, slots := 0, locals := 67 }).room s m args below meth c H locs 0 0 (MQ below (QcL D A r (wM cy ad S')) args s 0 0 A) (F0 m 16 ls []) := by
    intro k5 ih5 n
    induction n with
    | zero =>
      intro x1 x2 x3 x5 x6 S H locs ls hP hS hl hf
      cases hf
    | succ n ih16 =>
      intro x1 x2 x3 x5 x6 S H locs ls hP hS hl hf
      have hf : bX6_countUp_16 k5 (lp (fun k q => bX6_countUp_16 k5 k q.1 q.2.1 q.2.2.1 q.2.2.2.1 q.2.2.2.2.1 q.2.2.2.2.2) n) x1 x2 x3 x5 x6 S = some (r, S') := hf
      generalize lp (fun k q => bX6_countUp_16 k5 k q.1 q.2.1 q.2.2.1 q.2.2.2.1 q.2.2.2.2.1 q.2.2.2.2.2) n = k16 at hf ih16
      unfold bX6_countUp_16 at hf
      refine lv_iload hx hb dX6_countUp_16 (lv_at hl 5 rfl) ?_
      refine lv_bipush (v := 8) hx hb dX6_countUp_18 (by decide) ?_
      refine lv_icmp_ge (tgt := 150) hx hb dX6_countUp_20 (by decide) (fun c96 => ?_) (fun c96 => ?_)
      · have hf := (if_pos c96).symm.trans hf
        refine lv_iinc (v := (x5 + 1)) (lv' := [(5, .int (x5 + 1)), (0, .ref (ad 0)), (1, .int x1), (2, .int x2), (3, .long x3), (6, .int x6)]) hx hb dX6_countUp_150 hl (k := 4) rfl rfl (by decide) rfl (fun ls hl => ?_)
        refine lv_goto (tgt := 5) hx hb dX6_countUp_153 (by decide) ?_
        exact ih5 (x1) (x2) (x3) ((x5 + 1)) S H locs ls hP hS (lv_sub hl [1, 2, 3, 4, 0] rfl) hf
      · have hf := (if_neg c96).symm.trans hf
        refine lv_iload hx hb dX6_countUp_23 (lv_at hl 4 rfl) ?_
        refine lv_iload_n hx hb dX6_countUp_25 rfl (lv_at hl 1 rfl) ?_
        refine lv_icmp_ne (tgt := 33) hx hb dX6_countUp_26 (by decide) (fun c97 => ?_) (fun c97 => ?_)
        · have hf := (if_neg c97).symm.trans hf
          refine lv_lconst (v := 0) hx hb dX6_countUp_33 (by decide) ?_
          refine lv_lstore (lv' := [(7, .long 0), (0, .ref (ad 0)), (1, .int x1), (2, .int x2), (3, .long x3), (5, .int x5), (6, .int x6)]) hx hb dX6_countUp_34 hl (by decide) rfl (fun ls hl => ?_)
          refine lv_iconst (v := 0) hx hb dX6_countUp_36 (by decide) ?_
          refine lv_istore (lv' := [(9, .int 0), (7, .long 0), (0, .ref (ad 0)), (1, .int x1), (2, .int x2), (3, .long x3), (5, .int x5), (6, .int x6)]) hx hb dX6_countUp_37 hl (by decide) rfl (fun ls hl => ?_)
          exact K39 k5 ih5 k16 ih16 FU (x1) (x2) (x3) (x5) (x6) (0) (0) S H locs ls hP hS (lv_sub hl [2, 3, 4, 5, 6, 7, 1, 0] rfl) hf
        · have hf := (if_pos c97).symm.trans hf
          refine lv_lconst (v := 1) hx hb dX6_countUp_29 (by decide) ?_
          refine lv_goto (tgt := 34) hx hb dX6_countUp_30 (by decide) ?_
          refine lv_lstore (lv' := [(7, .long 1), (0, .ref (ad 0)), (1, .int x1), (2, .int x2), (3, .long x3), (5, .int x5), (6, .int x6)]) hx hb dX6_countUp_34 hl (by decide) rfl (fun ls hl => ?_)
          refine lv_iconst (v := 0) hx hb dX6_countUp_36 (by decide) ?_
          refine lv_istore (lv' := [(9, .int 0), (7, .long 1), (0, .ref (ad 0)), (1, .int x1), (2, .int x2), (3, .long x3), (5, .int x5), (6, .int x6)]) hx hb dX6_countUp_37 hl (by decide) rfl (fun ls hl => ?_)
          exact K39 k5 ih5 k16 ih16 FU (x1) (x2) (x3) (x5) (x6) (1) (0) S H locs ls hP hS (lv_sub hl [2, 3, 4, 5, 6, 7, 1, 0] rfl) hf
  have K5 : ∀ (n : Nat), ∀ (x1 : Int32) (x2 : Int32) (x3 : Int64) (x5 : Int32) (S : MS) (H : Heap) (locs : List Loc) (ls : Array Slot), va_P D vwCl (wM cy ad S) H → va_S A s.heap H locs → lv_has ls 10 [(0, .ref (ad 0)), (1, .int x1), (2, .int x2), (3, .long x3), (5, .int x5)] → lp (fun k q => bX6_countUp_5  k q.1 q.2.1 q.2.2.1 q.2.2.2.1 q.2.2.2.2) n (x1, x2, x3, x5, S) = some (r, S') → W p l e (headSpec wsX6_countUp { frames := 3, cells := 0, slots := 0, locals := 67 }).room s m args below meth c H locs 0 0 (MQ below (QcL D A r (wM cy ad S')) args s 0 0 A) (F0 m 5 ls []) := by
    intro  n
    induction n with
    | zero =>
      intro x1 x2 x3 x5 S H locs ls hP hS hl hf
      cases hf
    | succ n ih5 =>
      intro x1 x2 x3 x5 S H locs ls hP hS hl hf
      have hf : bX6_countUp_5  (lp (fun k q => bX6_countUp_5  k q.1 q.2.1 q.2.2.1 q.2.2.2.1 q.2.2.2.2) n) x1 x2 x3 x5 S = some (r, S') := hf
      generalize lp (fun k q => bX6_countUp_5  k q.1 q.2.1 q.2.2.1 q.2.2.2.1 q.2.2.2.2) n = k5 at hf ih5
      unfold bX6_countUp_5 at hf
      refine lv_iload hx hb dX6_countUp_5 (lv_at hl 4 rfl) ?_
      refine lv_iload_n hx hb dX6_countUp_7 rfl (lv_at hl 2 rfl) ?_
      refine lv_icmp_gt (tgt := 156) hx hb dX6_countUp_8 (by decide) (fun c98 => ?_) (fun c98 => ?_)
      · have hf := (if_pos c98).symm.trans hf
        refine lv_lload_n hx hb dX6_countUp_156 rfl (lv_at hl 3 rfl) ?_
        obtain ⟨he, hS9⟩ := Prod.mk.inj (Option.some.inj hf)
        subst hS9
        exact rL hx hb hr hP hS he hlocks dX6_countUp_157
      · have hf := (if_neg c98).symm.trans hf
        refine lv_lconst (v := 0) hx hb dX6_countUp_11 (by decide) ?_
        refine lv_lstore_n (lv' := [(3, .long 0), (0, .ref (ad 0)), (1, .int x1), (2, .int x2), (5, .int x5)]) hx hb dX6_countUp_12 rfl hl (by decide) rfl (fun ls hl => ?_)
        refine lv_iconst (v := 0) hx hb dX6_countUp_13 (by decide) ?_
        refine lv_istore (lv' := [(6, .int 0), (3, .long 0), (0, .ref (ad 0)), (1, .int x1), (2, .int x2), (5, .int x5)]) hx hb dX6_countUp_14 hl (by decide) rfl (fun ls hl => ?_)
        exact K16 k5 ih5 FU (x1) (x2) (0) (x5) (0) S H locs ls hP hS (lv_sub hl [2, 3, 4, 1, 5, 0] rfl) hf
  unfold fX6_countUp at hf
  suffices hG : ∀ (H : Heap) (locs : List Loc), va_P D vwCl (wM cy ad S) H → va_S A s.heap H locs → W p l e (headSpec wsX6_countUp { frames := 3, cells := 0, slots := 0, locals := 67 }).room s m args below meth c H locs 0 0 (MQ below (QcL D A r (wM cy ad S')) args s 0 0 A) (F0 m 0 ls []) by exact hG s.heap [] hP va_S.rf
  clear hP hS
  intro H locs hP hS
  refine lv_lconst (v := 1) hx hb dX6_countUp_0 (by decide) ?_
  refine lv_lstore_n (lv' := [(3, .long 1), (0, .ref (ad 0)), (1, .int p0), (2, .int p1)]) hx hb dX6_countUp_1 rfl hl (by decide) rfl (fun ls hl => ?_)
  refine lv_iload_n hx hb dX6_countUp_2 rfl (lv_at hl 2 rfl) ?_
  refine lv_istore (lv' := [(5, .int p0), (3, .long 1), (0, .ref (ad 0)), (1, .int p0), (2, .int p1)]) hx hb dX6_countUp_3 hl (by decide) rfl (fun ls hl => ?_)
  exact K5  FU (p0) (p1) (1) (p0) S H locs ls hP hS (lv_sub hl [2, 3, 4, 1, 0] rfl) hf

def fX6_findWays  (S : MS) : Option (Int64 × MS) := (ob1 (fX6_findOwn  S) (fun S2 => (ob1 (fX6_countDown  S2) (fun S4 => (ob2 (fX6_countUp 0 ((mi S4 3) - 1) S4) (fun r5 S7 => (some (r5, S7))))))))
set_option maxHeartbeats 4000000 in
set_option maxRecDepth 100000 in
theorem okX6_findWays (l : Launch) (D : va_G) (cy : Nat → ClassId) (ad : Nat → Nat) (A : Nat → Prop) (hD : ∀ S, va_D A (wM cy ad S))  (S : MS) (r : Int64) (S' : MS) (hf : fX6_findWays  S = some (r, S')) : ML l yX6_findWays wsX6_findWays { frames := 7, cells := 0, slots := 0, locals := 157 } D cy A (wM cy ad S) [.ref (ad 0)] r (wM cy ad S') := by
  refine Met.ofW (cc := cX6_findWays) (maxL := 1) (ret := (some .long)) (by decide) rfl ?_
  intro p e s m args below meth c s₁ B hml hv
  obtain ⟨ha, hP, hK⟩ := hv
  have hx := B.exec
  have hb := B.bytes
  have hr := B.returns
  have hts := atoms_spec (ws := wsX6_findWays) B.pre
  have hown : s.vm.findClass RX6 = some m.cls := findClass_of_methodNamed B.named
  have hlocks := B.notSynchronized
  have hS : va_S A s.heap s.heap [] := va_S.rf
  obtain ⟨ls, hl, he0⟩ := ent (m := m) ha (n := 1) (Nat.le_of_ble_eq_true rfl)
  refine W.eq he0 ?_
  have hl : lv_has ls 1 [(0, .ref (ad 0))] := hl
  unfold fX6_findWays at hf
  suffices hG : ∀ (H : Heap) (locs : List Loc), va_P D vwCl (wM cy ad S) H → va_S A s.heap H locs → W p l e (headSpec wsX6_findWays { frames := 7, cells := 0, slots := 0, locals := 157 }).room s m args below meth c H locs 0 0 (MQ below (QcL D A r (wM cy ad S')) args s 0 0 A) (F0 m 0 ls []) by exact hG s.heap [] hP va_S.rf
  clear hP hS
  intro H locs hP hS
  refine lv_aload_n hx hb dX6_findWays_0 rfl (lv_at hl 0 rfl) ?_
  obtain ⟨S2, h1, hf⟩ := ob1_some hf
  refine kVv (As := []) (rest := []) ⟨hx, hb, hml, hown, hts⟩ (okX6_findOwn l D cy ad A hD  S S2 h1) (cwV 0 hts gX6_findWays_X6_findOwn rfl rfl rfl (by decide +kernel) ⟨Nat.le_of_ble_eq_true rfl, Nat.le_of_ble_eq_true rfl⟩) hK hP hS (va_recv hK.1 hP (ci := 6) (q := (RX6, TX6, 21)) rfl (atM0 cy ad S)) rfl hl.1 rfl (Nat.le_of_ble_eq_true rfl) dX6_findWays_1 (fun H locs hP hS => ?_)
  refine lv_aload_n hx hb dX6_findWays_4 rfl (lv_at hl 0 rfl) ?_
  obtain ⟨S4, h3, hf⟩ := ob1_some hf
  refine kVv (As := []) (rest := []) ⟨hx, hb, hml, hown, hts⟩ (okX6_countDown l D cy ad A hD  S2 S4 h3) (cwV 0 hts gX6_findWays_X6_countDown rfl rfl rfl (by decide +kernel) ⟨Nat.le_of_ble_eq_true rfl, Nat.le_of_ble_eq_true rfl⟩) hK hP hS (va_recv hK.1 hP (ci := 6) (q := (RX6, TX6, 21)) rfl (atM0 cy ad S2)) rfl hl.1 rfl (Nat.le_of_ble_eq_true rfl) dX6_findWays_5 (fun H locs hP hS => ?_)
  refine lv_aload_n hx hb dX6_findWays_8 rfl (lv_at hl 0 rfl) ?_
  refine lv_iconst (v := 0) hx hb dX6_findWays_9 (by decide) ?_
  refine lv_aload_n hx hb dX6_findWays_10 rfl (lv_at hl 0 rfl) ?_
  refine gfX6_5 hx hb hts (fun _ h => List.mem_cons_of_mem _ (List.mem_append_right _ h)) hown hK hP (hts (Cond.fieldLink RX6 68 "WhoSpeaksModel" "paragraphs" "I") (List.mem_of_getElem? (i := 1) rfl)) dX6_findWays_11 ?_
  refine lv_iconst (v := 1) hx hb dX6_findWays_14 (by decide) ?_
  refine lv_isub hx hb dX6_findWays_15 ?_
  obtain ⟨r5, S7, h6, hf⟩ := ob2_some hf
  refine kVl (As := [.int 0, .int ((mi S4 3) - 1)]) (rest := []) ⟨hx, hb, hml, hown, hts⟩ (okX6_countUp l D cy ad A hD 0 ((mi S4 3) - 1) S4 r5 S7 h6) (cwV 2 hts gX6_findWays_X6_countUp rfl rfl rfl (by decide +kernel) ⟨Nat.le_of_ble_eq_true rfl, Nat.le_of_ble_eq_true rfl⟩) hK hP hS (va_recv hK.1 hP (ci := 6) (q := (RX6, TX6, 21)) rfl (atM0 cy ad S4)) rfl hl.1 rfl (Nat.le_of_ble_eq_true rfl) dX6_findWays_16 (fun H locs hP hS => ?_)
  obtain ⟨he, hS9⟩ := Prod.mk.inj (Option.some.inj hf)
  subst hS9
  exact rL hx hb hr hP hS he hlocks dX6_findWays_19
