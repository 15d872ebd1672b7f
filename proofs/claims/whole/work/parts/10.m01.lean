def fX6_within (p0 : Int32) (p1 : Int32) (p2 : Int32) : Bool := (if p0 < p1 then false else (if p2 < p0 then false else true))
set_option maxHeartbeats 4000000 in
set_option maxRecDepth 100000 in
theorem okX6_within (l : Launch) (D : va_G) (cy : Nat → ClassId) (A : Nat → Prop) (w : va_W) (p0 : Int32) (p1 : Int32) (p2 : Int32) (r : Bool) (hf : fX6_within p0 p1 p2 = r) : MI l yX6_within wsX6_within { frames := 0, cells := 0, slots := 0, locals := 0 } D cy A w [.int p0, .int p1, .int p2] (bi r) w := by
  refine Met.ofW (cc := cX6_within) (maxL := 3) (ret := (some .boolean)) (by decide) rfl ?_
  intro p e s m args below meth c s₁ B hml hv
  obtain ⟨ha, hP, hK⟩ := hv
  have hx := B.exec
  have hb := B.bytes
  have hr := B.returns
  have hts := atoms_spec (ws := wsX6_within) B.pre
  have hown : s.vm.findClass RX6 = some m.cls := findClass_of_methodNamed B.named
  have hlocks := B.notSynchronized
  have hS : va_S A s.heap s.heap [] := va_S.rf
  obtain ⟨ls, hl, he0⟩ := ent (m := m) ha (n := 3) (Nat.le_of_ble_eq_true rfl)
  refine W.eq he0 ?_
  have hl : lv_has ls 3 [(0, .int p0), (1, .int p1), (2, .int p2)] := hl
  unfold fX6_within at hf
  suffices hG : ∀ (H : Heap) (locs : List Loc), va_P D vwCl w H → va_S A s.heap H locs → W p l e (headSpec wsX6_within { frames := 0, cells := 0, slots := 0, locals := 0 }).room s m args below meth c H locs 0 0 (MQ below (QcI D A (bi r) w) args s 0 0 A) (F0 m 0 ls []) by exact hG s.heap [] hP va_S.rf
  clear hP hS
  intro H locs hP hS
  refine lv_iload_n hx hb dX6_within_0 rfl (lv_at hl 0 rfl) ?_
  refine lv_iload_n hx hb dX6_within_1 rfl (lv_at hl 1 rfl) ?_
  refine lv_icmp_lt (tgt := 14) hx hb dX6_within_2 (by decide) (fun c3 => ?_) (fun c3 => ?_)
  · have hf := (if_pos c3).symm.trans hf
    refine lv_iconst (v := 0) hx hb dX6_within_14 (by decide) ?_
    have he := hf
    exact rZ hx hb hr (bi_nar false) hP hS (congrArg bi he) hlocks dX6_within_15
  · have hf := (if_neg c3).symm.trans hf
    refine lv_iload_n hx hb dX6_within_5 rfl (lv_at hl 0 rfl) ?_
    refine lv_iload_n hx hb dX6_within_6 rfl (lv_at hl 2 rfl) ?_
    refine lv_icmp_gt (tgt := 14) hx hb dX6_within_7 (by decide) (fun c4 => ?_) (fun c4 => ?_)
    · have hf := (if_pos c4).symm.trans hf
      refine lv_iconst (v := 0) hx hb dX6_within_14 (by decide) ?_
      have he := hf
      exact rZ hx hb hr (bi_nar false) hP hS (congrArg bi he) hlocks dX6_within_15
    · have hf := (if_neg c4).symm.trans hf
      refine lv_iconst (v := 1) hx hb dX6_within_10 (by decide) ?_
      refine lv_goto (tgt := 15) hx hb dX6_within_11 (by decide) ?_
      have he := hf
      exact rZ hx hb hr (bi_nar true) hP hS (congrArg bi he) hlocks dX6_within_15

def fX6_person (p0 : Int32) (p1 : Int32) (S : MS) : Option (Int32 × MS) := (if (bi (fX6_within p0 0 7)) = 0 then (some ((-1), S)) else (if (bi (fX6_within p1 0 2)) = 0 then (some ((-2), S)) else (ck p0 8 (bnd ((ma S 1 p0.toNatClampNeg)) (fun y12 => (ck p0 8 (bnd (maW S 1 p0.toNatClampNeg p1) (fun S13 => (some (y12, S13))))))))))
set_option maxHeartbeats 4000000 in
set_option maxRecDepth 100000 in
theorem okX6_person (l : Launch) (D : va_G) (cy : Nat → ClassId) (ad : Nat → Nat) (A : Nat → Prop) (hD : ∀ S, va_D A (wM cy ad S)) (p0 : Int32) (p1 : Int32) (S : MS) (r : Int32) (S' : MS) (hf : fX6_person p0 p1 S = some (r, S')) : MI l yX6_person wsX6_person { frames := 1, cells := 0, slots := 0, locals := 22 } D cy A (wM cy ad S) [.ref (ad 0), .int p0, .int p1] r (wM cy ad S') := by
  refine Met.ofW (cc := cX6_person) (maxL := 4) (ret := (some .int)) (by decide) rfl ?_
  intro p e s m args below meth c s₁ B hml hv
  obtain ⟨ha, hP, hK⟩ := hv
  have hx := B.exec
  have hb := B.bytes
  have hr := B.returns
  have hts := atoms_spec (ws := wsX6_person) B.pre
  have hown : s.vm.findClass RX6 = some m.cls := findClass_of_methodNamed B.named
  have hlocks := B.notSynchronized
  have hS : va_S A s.heap s.heap [] := va_S.rf
  obtain ⟨ls, hl, he0⟩ := ent (m := m) ha (n := 4) (Nat.le_of_ble_eq_true rfl)
  refine W.eq he0 ?_
  have hl : lv_has ls 4 [(0, .ref (ad 0)), (1, .int p0), (2, .int p1)] := hl
  unfold fX6_person at hf
  suffices hG : ∀ (H : Heap) (locs : List Loc), va_P D vwCl (wM cy ad S) H → va_S A s.heap H locs → W p l e (headSpec wsX6_person { frames := 1, cells := 0, slots := 0, locals := 22 }).room s m args below meth c H locs 0 0 (MQ below (QcI D A r (wM cy ad S')) args s 0 0 A) (F0 m 0 ls []) by exact hG s.heap [] hP va_S.rf
  clear hP hS
  intro H locs hP hS
  refine lv_iload_n hx hb dX6_person_0 rfl (lv_at hl 1 rfl) ?_
  refine lv_iconst (v := 0) hx hb dX6_person_1 (by decide) ?_
  refine lv_bipush (v := 7) hx hb dX6_person_2 (by decide) ?_
  refine kSi (As := [.int p0, .int 0, .int 7]) (rest := []) ⟨hx, hb, hml, hown, hts⟩ (okX6_within l D cy A (wM cy ad S) p0 0 7 _ rfl) (va_cwS 3 hts gX6_person_X6_within rfl rfl rfl (by decide +kernel) ⟨Nat.le_of_ble_eq_true rfl, Nat.le_of_ble_eq_true rfl⟩) hK hP hS rfl hl.1 rfl (Nat.le_of_ble_eq_true rfl) dX6_person_4 (fun H locs hP hS => ?_)
  refine lv_if_ne (tgt := 12) hx hb dX6_person_7 (by decide) (fun c8 => ?_) (fun c8 => ?_)
  · have hf := (if_neg c8).symm.trans hf
    refine lv_iload_n hx hb dX6_person_12 rfl (lv_at hl 2 rfl) ?_
    refine lv_iconst (v := 0) hx hb dX6_person_13 (by decide) ?_
    refine lv_iconst (v := 2) hx hb dX6_person_14 (by decide) ?_
    refine kSi (As := [.int p1, .int 0, .int 2]) (rest := []) ⟨hx, hb, hml, hown, hts⟩ (okX6_within l D cy A (wM cy ad S) p1 0 2 _ rfl) (va_cwS 3 hts gX6_person_X6_within rfl rfl rfl (by decide +kernel) ⟨Nat.le_of_ble_eq_true rfl, Nat.le_of_ble_eq_true rfl⟩) hK hP hS rfl hl.1 rfl (Nat.le_of_ble_eq_true rfl) dX6_person_15 (fun H locs hP hS => ?_)
    refine lv_if_ne (tgt := 24) hx hb dX6_person_18 (by decide) (fun c10 => ?_) (fun c10 => ?_)
    · have hf := (if_neg c10).symm.trans hf
      refine lv_aload_n hx hb dX6_person_24 rfl (lv_at hl 0 rfl) ?_
      refine gfX6_0 hx hb hts (fun _ h => List.mem_cons_of_mem _ (List.mem_append_right _ h)) hown hK hP (hts (Cond.fieldLink RX6 7 "WhoSpeaksModel" "sortOf" "[I") (List.mem_of_getElem? (i := 1) rfl)) dX6_person_25 ?_
      refine lv_iload_n hx hb dX6_person_28 rfl (lv_at hl 1 rfl) ?_
      obtain ⟨c11, hf⟩ := ck_some hf
      refine alM1 hx hb hK hP c11 dX6_person_29 ?_
      refine lv_topi (fun y12 ey12 => ?_)
      have hf := bnd_of ey12 hf
      refine lv_istore_n (lv' := [(3, .int y12), (0, .ref (ad 0)), (1, .int p0), (2, .int p1)]) hx hb dX6_person_30 rfl hl (by decide) rfl (fun ls hl => ?_)
      refine lv_aload_n hx hb dX6_person_31 rfl (lv_at hl 1 rfl) ?_
      refine gfX6_0 hx hb hts (fun _ h => List.mem_cons_of_mem _ (List.mem_append_right _ h)) hown hK hP (hts (Cond.fieldLink RX6 7 "WhoSpeaksModel" "sortOf" "[I") (List.mem_of_getElem? (i := 1) rfl)) dX6_person_32 ?_
      refine lv_iload_n hx hb dX6_person_35 rfl (lv_at hl 2 rfl) ?_
      refine lv_iload_n hx hb dX6_person_36 rfl (lv_at hl 3 rfl) ?_
      obtain ⟨c14, hf⟩ := ck_some hf
      refine asM1 (v := p1) hx hb hK hP hD hS c14 dX6_person_37 (fun S13 eS13 H locs hP hS => ?_)
      have hf := bnd_of eS13 hf
      refine lv_iload_n hx hb dX6_person_38 rfl (lv_at hl 0 rfl) ?_
      obtain ⟨he, hS9⟩ := Prod.mk.inj (Option.some.inj hf)
      subst hS9
      exact rI hx hb hr hP hS he hlocks dX6_person_39
    · have hf := (if_pos c10).symm.trans hf
      refine lv_bipush (v := (-2)) hx hb dX6_person_21 (by decide) ?_
      obtain ⟨he, hS9⟩ := Prod.mk.inj (Option.some.inj hf)
      subst hS9
      exact rI hx hb hr hP hS he hlocks dX6_person_23
  · have hf := (if_pos c8).symm.trans hf
    refine lv_iconst (v := (-1)) hx hb dX6_person_10 (by decide) ?_
    obtain ⟨he, hS9⟩ := Prod.mk.inj (Option.some.inj hf)
    subst hS9
    exact rI hx hb hr hP hS he hlocks dX6_person_11

def fX6_isThere (p0 : Int32) (S : MS) : Option Bool := (if (bi (fX6_within p0 0 7)) = 0 then (some false) else (ck p0 8 (if (ma S 1 p0.toNatClampNeg) = (-9) then (some false) else (some true))))
set_option maxHeartbeats 4000000 in
set_option maxRecDepth 100000 in
theorem okX6_isThere (l : Launch) (D : va_G) (cy : Nat → ClassId) (ad : Nat → Nat) (A : Nat → Prop) (hD : ∀ S, va_D A (wM cy ad S)) (p0 : Int32) (S : MS) (r : Bool) (hf : fX6_isThere p0 S = some r) : MI l yX6_isThere wsX6_isThere { frames := 1, cells := 0, slots := 0, locals := 22 } D cy A (wM cy ad S) [.ref (ad 0), .int p0] (bi r) (wM cy ad S) := by
  refine Met.ofW (cc := cX6_isThere) (maxL := 2) (ret := (some .boolean)) (by decide) rfl ?_
  intro p e s m args below meth c s₁ B hml hv
  obtain ⟨ha, hP, hK⟩ := hv
  have hx := B.exec
  have hb := B.bytes
  have hr := B.returns
  have hts := atoms_spec (ws := wsX6_isThere) B.pre
  have hown : s.vm.findClass RX6 = some m.cls := findClass_of_methodNamed B.named
  have hlocks := B.notSynchronized
  have hS : va_S A s.heap s.heap [] := va_S.rf
  obtain ⟨ls, hl, he0⟩ := ent (m := m) ha (n := 2) (Nat.le_of_ble_eq_true rfl)
  refine W.eq he0 ?_
  have hl : lv_has ls 2 [(0, .ref (ad 0)), (1, .int p0)] := hl
  unfold fX6_isThere at hf
  suffices hG : ∀ (H : Heap) (locs : List Loc), va_P D vwCl (wM cy ad S) H → va_S A s.heap H locs → W p l e (headSpec wsX6_isThere { frames := 1, cells := 0, slots := 0, locals := 22 }).room s m args below meth c H locs 0 0 (MQ below (QcI D A (bi r) (wM cy ad S)) args s 0 0 A) (F0 m 0 ls []) by exact hG s.heap [] hP va_S.rf
  clear hP hS
  intro H locs hP hS
  refine lv_iload_n hx hb dX6_isThere_0 rfl (lv_at hl 1 rfl) ?_
  refine lv_iconst (v := 0) hx hb dX6_isThere_1 (by decide) ?_
  refine lv_bipush (v := 7) hx hb dX6_isThere_2 (by decide) ?_
  refine kSi (As := [.int p0, .int 0, .int 7]) (rest := []) ⟨hx, hb, hml, hown, hts⟩ (okX6_within l D cy A (wM cy ad S) p0 0 7 _ rfl) (va_cwS 3 hts gX6_isThere_X6_within rfl rfl rfl (by decide +kernel) ⟨Nat.le_of_ble_eq_true rfl, Nat.le_of_ble_eq_true rfl⟩) hK hP hS rfl hl.1 rfl (Nat.le_of_ble_eq_true rfl) dX6_isThere_4 (fun H locs hP hS => ?_)
  refine lv_if_eq (tgt := 25) hx hb dX6_isThere_7 (by decide) (fun c5 => ?_) (fun c5 => ?_)
  · have hf := (if_pos c5).symm.trans hf
    refine lv_iconst (v := 0) hx hb dX6_isThere_25 (by decide) ?_
    have he := Option.some.inj hf
    exact rZ hx hb hr (bi_nar false) hP hS (congrArg bi he) hlocks dX6_isThere_26
  · have hf := (if_neg c5).symm.trans hf
    refine lv_aload_n hx hb dX6_isThere_10 rfl (lv_at hl 0 rfl) ?_
    refine gfX6_0 hx hb hts (fun _ h => List.mem_cons_of_mem _ (List.mem_append_right _ h)) hown hK hP (hts (Cond.fieldLink RX6 7 "WhoSpeaksModel" "sortOf" "[I") (List.mem_of_getElem? (i := 1) rfl)) dX6_isThere_11 ?_
    refine lv_iload_n hx hb dX6_isThere_14 rfl (lv_at hl 1 rfl) ?_
    obtain ⟨c6, hf⟩ := ck_some hf
    refine alM1 hx hb hK hP c6 dX6_isThere_15 ?_
    refine lv_bipush (v := (-9)) hx hb dX6_isThere_16 (by decide) ?_
    refine lv_icmp_eq (tgt := 25) hx hb dX6_isThere_18 (by decide) (fun c7 => ?_) (fun c7 => ?_)
    · have hf := (if_pos c7).symm.trans hf
      refine lv_iconst (v := 0) hx hb dX6_isThere_25 (by decide) ?_
      have he := Option.some.inj hf
      exact rZ hx hb hr (bi_nar false) hP hS (congrArg bi he) hlocks dX6_isThere_26
    · have hf := (if_neg c7).symm.trans hf
      refine lv_iconst (v := 1) hx hb dX6_isThere_21 (by decide) ?_
      refine lv_goto (tgt := 26) hx hb dX6_isThere_22 (by decide) ?_
      have he := Option.some.inj hf
      exact rZ hx hb hr (bi_nar true) hP hS (congrArg bi he) hlocks dX6_isThere_26

def bX6_isNamed_12 (k2 : Int32 × Int32 × MS → Option Bool) (k12 : Int32 × Int32 × Int32 × MS → Option Bool) (x1 : Int32) (x2 : Int32) (x3 : Int32) (S : MS) : Option Bool := (ck x2 16 (if (ma S 3 x2.toNatClampNeg) ≤ x3 then (k2 (x1, (x2 + 1), S)) else (ck ((12 * x2) + x3) 192 (if (ma S 5 ((12 * x2) + x3).toNatClampNeg) = x1 then (some true) else (k12 (x1, x2, (x3 + 1), S))))))
def bX6_isNamed_2  (k2 : Int32 × Int32 × MS → Option Bool) (x1 : Int32) (x2 : Int32) (S : MS) : Option Bool := (if (mi S 3) ≤ x2 then (some false) else (lp (fun k q => bX6_isNamed_12 k2 k q.1 q.2.1 q.2.2.1 q.2.2.2) FU (x1, x2, 0, S)))
def fX6_isNamed (p0 : Int32) (S : MS) : Option Bool := (lp (fun k q => bX6_isNamed_2  k q.1 q.2.1 q.2.2) FU (p0, 0, S))
set_option maxHeartbeats 4000000 in
set_option maxRecDepth 100000 in
theorem okX6_isNamed (l : Launch) (D : va_G) (cy : Nat → ClassId) (ad : Nat → Nat) (A : Nat → Prop) (hD : ∀ S, va_D A (wM cy ad S)) (p0 : Int32) (S : MS) (r : Bool) (hf : fX6_isNamed p0 S = some r) : MI l yX6_isNamed wsX6_isNamed { frames := 0, cells := 0, slots := 0, locals := 0 } D cy A (wM cy ad S) [.ref (ad 0), .int p0] (bi r) (wM cy ad S) := by
  refine Met.ofW (cc := cX6_isNamed) (maxL := 4) (ret := (some .boolean)) (by decide) rfl ?_
  intro p e s m args below meth c s₁ B hml hv
  obtain ⟨ha, hP, hK⟩ := hv
  have hx := B.exec
  have hb := B.bytes
  have hr := B.returns
  have hts := atoms_spec (ws := wsX6_isNamed) B.pre
  have hown : s.vm.findClass RX6 = some m.cls := findClass_of_methodNamed B.named
  have hlocks := B.notSynchronized
  have hS : va_S A s.heap s.heap [] := va_S.rf
  obtain ⟨ls, hl, he0⟩ := ent (m := m) ha (n := 4) (Nat.le_of_ble_eq_true rfl)
  refine W.eq he0 ?_
  have hl : lv_has ls 4 [(0, .ref (ad 0)), (1, .int p0)] := hl
  have K12 : ∀ (k2 : Int32 × Int32 × MS → Option Bool), (∀ (x1 : Int32) (x2 : Int32) (S : MS) (H : Heap) (locs : List Loc) (ls : Array Slot), va_P D vwCl (wM cy ad S) H → va_S A s.heap H locs → lv_has ls 4 [(0, .ref (ad 0)), (1, .int x1), (2, .int x2)] → k2 (x1, x2, S) = some r → W p l e (headSpec wsX6_isNamed { frames := 0, cells := 0, slots := 0, locals := 0 }).room s m args below meth c H locs 0 0 (MQ below (QcI D A (bi r) (wM cy ad S)) args s 0 0 A) (F0 m 2 ls [])) → ∀ (n : Nat), ∀ (x1 : Int32) (x2 : Int32) (x3 : Int32) (S : MS) (H : Heap) (locs : List Loc) (ls : Array Slot), va_P D vwCl (wM cy ad S) H → va_S A s.heap H locs → lv_has ls 4 [(0, .ref (ad 0)), (1, .int x1), (2, .int x2), (3, .int x3)] → lp (fun k q => bX6_isNamed_12 k2 k q.1 q.2.1 q.2.2.1 q.2.2.2) n (x1, x2, x3, S) = some r → W p l e (headSpec wsX6_isNamed { frames := 0, cells := 0, slots := 0, locals := 0 }).room s m args below meth c H locs 0 0 (MQ below (QcI D A (bi r) (wM cy ad S)) args s 0 0 A) (F0 m 12 ls []) := by
    intro k2 ih2 n
    induction n with
    | zero =>
      intro x1 x2 x3 S H locs ls hP hS hl hf
      cases hf
    | succ n ih12 =>
      intro x1 x2 x3 S H locs ls hP hS hl hf
      have hf : bX6_isNamed_12 k2 (lp (fun k q => bX6_isNamed_12 k2 k q.1 q.2.1 q.2.2.1 q.2.2.2) n) x1 x2 x3 S = some r := hf
      generalize lp (fun k q => bX6_isNamed_12 k2 k q.1 q.2.1 q.2.2.1 q.2.2.2) n = k12 at hf ih12
      unfold bX6_isNamed_12 at hf
      refine lv_iload_n hx hb dX6_isNamed_12 rfl (lv_at hl 3 rfl) ?_
      refine lv_aload_n hx hb dX6_isNamed_13 rfl (lv_at hl 0 rfl) ?_
      refine gfX6_6 hx hb hts (fun _ h => List.mem_cons_of_mem _ (List.mem_append_right _ h)) hown hK hP (hts (Cond.fieldLink RX6 20 "WhoSpeaksModel" "itemsOf" "[I") (List.mem_of_getElem? (i := 2) rfl)) dX6_isNamed_14 ?_
      refine lv_iload_n hx hb dX6_isNamed_17 rfl (lv_at hl 2 rfl) ?_
      obtain ⟨c22, hf⟩ := ck_some hf
      refine alM3 hx hb hK hP c22 dX6_isNamed_18 ?_
      refine lv_icmp_ge (tgt := 45) hx hb dX6_isNamed_19 (by decide) (fun c23 => ?_) (fun c23 => ?_)
      · have hf := (if_pos c23).symm.trans hf
        refine lv_iinc (v := (x2 + 1)) (lv' := [(2, .int (x2 + 1)), (0, .ref (ad 0)), (1, .int x1), (3, .int x3)]) hx hb dX6_isNamed_45 hl (k := 2) rfl rfl (by decide) rfl (fun ls hl => ?_)
        refine lv_goto (tgt := 2) hx hb dX6_isNamed_48 (by decide) ?_
        exact ih2 (x1) ((x2 + 1)) S H locs ls hP hS (lv_sub hl [1, 2, 0] rfl) hf
      · have hf := (if_neg c23).symm.trans hf
        refine lv_aload_n hx hb dX6_isNamed_22 rfl (lv_at hl 0 rfl) ?_
        refine gfX6_8 hx hb hts (fun _ h => List.mem_cons_of_mem _ (List.mem_append_right _ h)) hown hK hP (hts (Cond.fieldLink RX6 26 "WhoSpeaksModel" "whom" "[I") (List.mem_of_getElem? (i := 3) rfl)) dX6_isNamed_23 ?_
        refine lv_bipush (v := 12) hx hb dX6_isNamed_26 (by decide) ?_
        refine lv_iload_n hx hb dX6_isNamed_28 rfl (lv_at hl 2 rfl) ?_
        refine lv_imul hx hb dX6_isNamed_29 ?_
        refine lv_iload_n hx hb dX6_isNamed_30 rfl (lv_at hl 3 rfl) ?_
        refine lv_iadd hx hb dX6_isNamed_31 ?_
        obtain ⟨c24, hf⟩ := ck_some hf
        refine alM5 hx hb hK hP c24 dX6_isNamed_32 ?_
        refine lv_iload_n hx hb dX6_isNamed_33 rfl (lv_at hl 1 rfl) ?_
        refine lv_icmp_ne (tgt := 39) hx hb dX6_isNamed_34 (by decide) (fun c25 => ?_) (fun c25 => ?_)
        · have hf := (if_neg c25).symm.trans hf
          refine lv_iinc (v := (x3 + 1)) (lv' := [(3, .int (x3 + 1)), (0, .ref (ad 0)), (1, .int x1), (2, .int x2)]) hx hb dX6_isNamed_39 hl (k := 3) rfl rfl (by decide) rfl (fun ls hl => ?_)
          refine lv_goto (tgt := 12) hx hb dX6_isNamed_42 (by decide) ?_
          exact ih12 (x1) (x2) ((x3 + 1)) S H locs ls hP hS (lv_sub hl [1, 2, 3, 0] rfl) hf
        · have hf := (if_pos c25).symm.trans hf
          refine lv_iconst (v := 1) hx hb dX6_isNamed_37 (by decide) ?_
          have he := Option.some.inj hf
          exact rZ hx hb hr (bi_nar true) hP hS (congrArg bi he) hlocks dX6_isNamed_38
  have K2 : ∀ (n : Nat), ∀ (x1 : Int32) (x2 : Int32) (S : MS) (H : Heap) (locs : List Loc) (ls : Array Slot), va_P D vwCl (wM cy ad S) H → va_S A s.heap H locs → lv_has ls 4 [(0, .ref (ad 0)), (1, .int x1), (2, .int x2)] → lp (fun k q => bX6_isNamed_2  k q.1 q.2.1 q.2.2) n (x1, x2, S) = some r → W p l e (headSpec wsX6_isNamed { frames := 0, cells := 0, slots := 0, locals := 0 }).room s m args below meth c H locs 0 0 (MQ below (QcI D A (bi r) (wM cy ad S)) args s 0 0 A) (F0 m 2 ls []) := by
    intro  n
    induction n with
    | zero =>
      intro x1 x2 S H locs ls hP hS hl hf
      cases hf
    | succ n ih2 =>
      intro x1 x2 S H locs ls hP hS hl hf
      have hf : bX6_isNamed_2  (lp (fun k q => bX6_isNamed_2  k q.1 q.2.1 q.2.2) n) x1 x2 S = some r := hf
      generalize lp (fun k q => bX6_isNamed_2  k q.1 q.2.1 q.2.2) n = k2 at hf ih2
      unfold bX6_isNamed_2 at hf
      refine lv_iload_n hx hb dX6_isNamed_2 rfl (lv_at hl 2 rfl) ?_
      refine lv_aload_n hx hb dX6_isNamed_3 rfl (lv_at hl 0 rfl) ?_
      refine gfX6_5 hx hb hts (fun _ h => List.mem_cons_of_mem _ (List.mem_append_right _ h)) hown hK hP (hts (Cond.fieldLink RX6 68 "WhoSpeaksModel" "paragraphs" "I") (List.mem_of_getElem? (i := 1) rfl)) dX6_isNamed_4 ?_
      refine lv_icmp_ge (tgt := 51) hx hb dX6_isNamed_7 (by decide) (fun c26 => ?_) (fun c26 => ?_)
      · have hf := (if_pos c26).symm.trans hf
        refine lv_iconst (v := 0) hx hb dX6_isNamed_51 (by decide) ?_
        have he := Option.some.inj hf
        exact rZ hx hb hr (bi_nar false) hP hS (congrArg bi he) hlocks dX6_isNamed_52
      · have hf := (if_neg c26).symm.trans hf
        refine lv_iconst (v := 0) hx hb dX6_isNamed_10 (by decide) ?_
        refine lv_istore_n (lv' := [(3, .int 0), (0, .ref (ad 0)), (1, .int x1), (2, .int x2)]) hx hb dX6_isNamed_11 rfl hl (by decide) rfl (fun ls hl => ?_)
        exact K12 k2 ih2 FU (x1) (x2) (0) S H locs ls hP hS (lv_sub hl [1, 2, 3, 0] rfl) hf
  unfold fX6_isNamed at hf
  suffices hG : ∀ (H : Heap) (locs : List Loc), va_P D vwCl (wM cy ad S) H → va_S A s.heap H locs → W p l e (headSpec wsX6_isNamed { frames := 0, cells := 0, slots := 0, locals := 0 }).room s m args below meth c H locs 0 0 (MQ below (QcI D A (bi r) (wM cy ad S)) args s 0 0 A) (F0 m 0 ls []) by exact hG s.heap [] hP va_S.rf
  clear hP hS
  intro H locs hP hS
  refine lv_iconst (v := 0) hx hb dX6_isNamed_0 (by decide) ?_
  refine lv_istore_n (lv' := [(2, .int 0), (0, .ref (ad 0)), (1, .int p0)]) hx hb dX6_isNamed_1 rfl hl (by decide) rfl (fun ls hl => ?_)
  exact K2  FU (p0) (0) S H locs ls hP hS (lv_sub hl [1, 2, 0] rfl) hf

def bX6_manyOf_5  (k5 : Int32 × Int32 × Int32 × Int32 × MS → Option Int32) (x1 : Int32) (x2 : Int32) (x3 : Int32) (x4 : Int32) (S : MS) : Option Int32 := (ck x1 16 (if (ma S 3 x1.toNatClampNeg) ≤ x4 then (some x3) else (ck ((12 * x1) + x4) 192 (if (ma S 4 ((12 * x1) + x4).toNatClampNeg) = x2 then (bnd ((x3 + 1)) (fun y24 => (k5 (x1, x2, y24, (x4 + 1), S)))) else (bnd ((x3 + 0)) (fun y23 => (k5 (x1, x2, y23, (x4 + 1), S))))))))
def fX6_manyOf (p0 : Int32) (p1 : Int32) (S : MS) : Option Int32 := (lp (fun k q => bX6_manyOf_5  k q.1 q.2.1 q.2.2.1 q.2.2.2.1 q.2.2.2.2) FU (p0, p1, 0, 0, S))
set_option maxHeartbeats 4000000 in
set_option maxRecDepth 100000 in
theorem okX6_manyOf (l : Launch) (D : va_G) (cy : Nat → ClassId) (ad : Nat → Nat) (A : Nat → Prop) (hD : ∀ S, va_D A (wM cy ad S)) (p0 : Int32) (p1 : Int32) (S : MS) (r : Int32) (hf : fX6_manyOf p0 p1 S = some r) : MI l yX6_manyOf wsX6_manyOf { frames := 0, cells := 0, slots := 0, locals := 0 } D cy A (wM cy ad S) [.ref (ad 0), .int p0, .int p1] r (wM cy ad S) := by
  refine Met.ofW (cc := cX6_manyOf) (maxL := 5) (ret := (some .int)) (by decide) rfl ?_
  intro p e s m args below meth c s₁ B hml hv
  obtain ⟨ha, hP, hK⟩ := hv
  have hx := B.exec
  have hb := B.bytes
  have hr := B.returns
  have hts := atoms_spec (ws := wsX6_manyOf) B.pre
  have hown : s.vm.findClass RX6 = some m.cls := findClass_of_methodNamed B.named
  have hlocks := B.notSynchronized
  have hS : va_S A s.heap s.heap [] := va_S.rf
  obtain ⟨ls, hl, he0⟩ := ent (m := m) ha (n := 5) (Nat.le_of_ble_eq_true rfl)
  refine W.eq he0 ?_
  have hl : lv_has ls 5 [(0, .ref (ad 0)), (1, .int p0), (2, .int p1)] := hl
  have K5 : ∀ (n : Nat), ∀ (x1 : Int32) (x2 : Int32) (x3 : Int32) (x4 : Int32) (S : MS) (H : Heap) (locs : List Loc) (ls : Array Slot), va_P D vwCl (wM cy ad S) H → va_S A s.heap H locs → lv_has ls 5 [(0, .ref (ad 0)), (1, .int x1), (2, .int x2), (3, .int x3), (4, .int x4)] → lp (fun k q => bX6_manyOf_5  k q.1 q.2.1 q.2.2.1 q.2.2.2.1 q.2.2.2.2) n (x1, x2, x3, x4, S) = some r → W p l e (headSpec wsX6_manyOf { frames := 0, cells := 0, slots := 0, locals := 0 }).room s m args below meth c H locs 0 0 (MQ below (QcI D A r (wM cy ad S)) args s 0 0 A) (F0 m 5 ls []) := by
    intro  n
    induction n with
    | zero =>
      intro x1 x2 x3 x4 S H locs ls hP hS hl hf
      cases hf
    | succ n ih5 =>
      intro x1 x2 x3 x4 S H locs ls hP hS hl hf
      have hf : bX6_manyOf_5  (lp (fun k q => bX6_manyOf_5  k q.1 q.2.1 q.2.2.1 q.2.2.2.1 q.2.2.2.2) n) x1 x2 x3 x4 S = some r := hf
      generalize lp (fun k q => bX6_manyOf_5  k q.1 q.2.1 q.2.2.1 q.2.2.2.1 q.2.2.2.2) n = k5 at hf ih5
      unfold bX6_manyOf_5 at hf
      refine lv_iload hx hb dX6_manyOf_5 (lv_at hl 4 rfl) ?_
      refine lv_aload_n hx hb dX6_manyOf_7 rfl (lv_at hl 0 rfl) ?_
      refine gfX6_6 hx hb hts (fun _ h => List.mem_cons_of_mem _ (List.mem_append_right _ h)) hown hK hP (hts (Cond.fieldLink RX6 20 "WhoSpeaksModel" "itemsOf" "[I") (List.mem_of_getElem? (i := 1) rfl)) dX6_manyOf_8 ?_
      refine lv_iload_n hx hb dX6_manyOf_11 rfl (lv_at hl 1 rfl) ?_
      obtain ⟨c19, hf⟩ := ck_some hf
      refine alM3 hx hb hK hP c19 dX6_manyOf_12 ?_
      refine lv_icmp_ge (tgt := 46) hx hb dX6_manyOf_13 (by decide) (fun c20 => ?_) (fun c20 => ?_)
      · have hf := (if_pos c20).symm.trans hf
        refine lv_iload_n hx hb dX6_manyOf_46 rfl (lv_at hl 3 rfl) ?_
        have he := Option.some.inj hf
        exact rI hx hb hr hP hS he hlocks dX6_manyOf_47
      · have hf := (if_neg c20).symm.trans hf
        refine lv_iload_n hx hb dX6_manyOf_16 rfl (lv_at hl 3 rfl) ?_
        refine lv_aload_n hx hb dX6_manyOf_17 rfl (lv_at hl 0 rfl) ?_
        refine gfX6_7 hx hb hts (fun _ h => List.mem_cons_of_mem _ (List.mem_append_right _ h)) hown hK hP (hts (Cond.fieldLink RX6 23 "WhoSpeaksModel" "item" "[I") (List.mem_of_getElem? (i := 2) rfl)) dX6_manyOf_18 ?_
        refine lv_bipush (v := 12) hx hb dX6_manyOf_21 (by decide) ?_
        refine lv_iload_n hx hb dX6_manyOf_23 rfl (lv_at hl 1 rfl) ?_
        refine lv_imul hx hb dX6_manyOf_24 ?_
        refine lv_iload hx hb dX6_manyOf_25 (lv_at hl 4 rfl) ?_
        refine lv_iadd hx hb dX6_manyOf_27 ?_
        obtain ⟨c21, hf⟩ := ck_some hf
        refine alM4 hx hb hK hP c21 dX6_manyOf_28 ?_
        refine lv_iload_n hx hb dX6_manyOf_29 rfl (lv_at hl 2 rfl) ?_
        refine lv_icmp_ne (tgt := 37) hx hb dX6_manyOf_30 (by decide) (fun c22 => ?_) (fun c22 => ?_)
        · have hf := (if_neg c22).symm.trans hf
          refine lv_iconst (v := 0) hx hb dX6_manyOf_37 (by decide) ?_
          refine lv_iadd hx hb dX6_manyOf_38 ?_
          refine lv_topi (fun y23 ey23 => ?_)
          have hf := bnd_of ey23 hf
          refine lv_istore_n (lv' := [(3, .int y23), (0, .ref (ad 0)), (1, .int x1), (2, .int x2), (4, .int x4)]) hx hb dX6_manyOf_39 rfl hl (by decide) rfl (fun ls hl => ?_)
          refine lv_iinc (v := (x4 + 1)) (lv' := [(4, .int (x4 + 1)), (3, .int y23), (0, .ref (ad 0)), (1, .int x1), (2, .int x2)]) hx hb dX6_manyOf_40 hl (k := 4) rfl rfl (by decide) rfl (fun ls hl => ?_)
          refine lv_goto (tgt := 5) hx hb dX6_manyOf_43 (by decide) ?_
          exact ih5 (x1) (x2) (y23) ((x4 + 1)) S H locs ls hP hS (lv_sub hl [2, 3, 4, 1, 0] rfl) hf
        · have hf := (if_pos c22).symm.trans hf
          refine lv_iconst (v := 1) hx hb dX6_manyOf_33 (by decide) ?_
          refine lv_goto (tgt := 38) hx hb dX6_manyOf_34 (by decide) ?_
          refine lv_iadd hx hb dX6_manyOf_38 ?_
          refine lv_topi (fun y24 ey24 => ?_)
          have hf := bnd_of ey24 hf
          refine lv_istore_n (lv' := [(3, .int y24), (0, .ref (ad 0)), (1, .int x1), (2, .int x2), (4, .int x4)]) hx hb dX6_manyOf_39 rfl hl (by decide) rfl (fun ls hl => ?_)
          refine lv_iinc (v := (x4 + 1)) (lv' := [(4, .int (x4 + 1)), (3, .int y24), (0, .ref (ad 0)), (1, .int x1), (2, .int x2)]) hx hb dX6_manyOf_40 hl (k := 4) rfl rfl (by decide) rfl (fun ls hl => ?_)
          refine lv_goto (tgt := 5) hx hb dX6_manyOf_43 (by decide) ?_
          exact ih5 (x1) (x2) (y24) ((x4 + 1)) S H locs ls hP hS (lv_sub hl [2, 3, 4, 1, 0] rfl) hf
  unfold fX6_manyOf at hf
  suffices hG : ∀ (H : Heap) (locs : List Loc), va_P D vwCl (wM cy ad S) H → va_S A s.heap H locs → W p l e (headSpec wsX6_manyOf { frames := 0, cells := 0, slots := 0, locals := 0 }).room s m args below meth c H locs 0 0 (MQ below (QcI D A r (wM cy ad S)) args s 0 0 A) (F0 m 0 ls []) by exact hG s.heap [] hP va_S.rf
  clear hP hS
  intro H locs hP hS
  refine lv_iconst (v := 0) hx hb dX6_manyOf_0 (by decide) ?_
  refine lv_istore_n (lv' := [(3, .int 0), (0, .ref (ad 0)), (1, .int p0), (2, .int p1)]) hx hb dX6_manyOf_1 rfl hl (by decide) rfl (fun ls hl => ?_)
  refine lv_iconst (v := 0) hx hb dX6_manyOf_2 (by decide) ?_
  refine lv_istore (lv' := [(4, .int 0), (3, .int 0), (0, .ref (ad 0)), (1, .int p0), (2, .int p1)]) hx hb dX6_manyOf_3 hl (by decide) rfl (fun ls hl => ?_)
  exact K5  FU (p0) (p1) (0) (0) S H locs ls hP hS (lv_sub hl [2, 3, 4, 1, 0] rfl) hf

def fX6_speaks (p0 : Int32) (S : MS) : Option Bool := (ob1 (fX6_manyOf p0 0 S) (fun r2 => (if r2 ≤ 0 then (some false) else (some true))))
set_option maxHeartbeats 4000000 in
set_option maxRecDepth 100000 in
theorem okX6_speaks (l : Launch) (D : va_G) (cy : Nat → ClassId) (ad : Nat → Nat) (A : Nat → Prop) (hD : ∀ S, va_D A (wM cy ad S)) (p0 : Int32) (S : MS) (r : Bool) (hf : fX6_speaks p0 S = some r) : MI l yX6_speaks wsX6_speaks { frames := 1, cells := 0, slots := 0, locals := 24 } D cy A (wM cy ad S) [.ref (ad 0), .int p0] (bi r) (wM cy ad S) := by
  refine Met.ofW (cc := cX6_speaks) (maxL := 2) (ret := (some .boolean)) (by decide) rfl ?_
  intro p e s m args below meth c s₁ B hml hv
  obtain ⟨ha, hP, hK⟩ := hv
  have hx := B.exec
  have hb := B.bytes
  have hr := B.returns
  have hts := atoms_spec (ws := wsX6_speaks) B.pre
  have hown : s.vm.findClass RX6 = some m.cls := findClass_of_methodNamed B.named
  have hlocks := B.notSynchronized
  have hS : va_S A s.heap s.heap [] := va_S.rf
  obtain ⟨ls, hl, he0⟩ := ent (m := m) ha (n := 2) (Nat.le_of_ble_eq_true rfl)
  refine W.eq he0 ?_
  have hl : lv_has ls 2 [(0, .ref (ad 0)), (1, .int p0)] := hl
  unfold fX6_speaks at hf
  suffices hG : ∀ (H : Heap) (locs : List Loc), va_P D vwCl (wM cy ad S) H → va_S A s.heap H locs → W p l e (headSpec wsX6_speaks { frames := 1, cells := 0, slots := 0, locals := 24 }).room s m args below meth c H locs 0 0 (MQ below (QcI D A (bi r) (wM cy ad S)) args s 0 0 A) (F0 m 0 ls []) by exact hG s.heap [] hP va_S.rf
  clear hP hS
  intro H locs hP hS
  refine lv_aload_n hx hb dX6_speaks_0 rfl (lv_at hl 0 rfl) ?_
  refine lv_iload_n hx hb dX6_speaks_1 rfl (lv_at hl 1 rfl) ?_
  refine lv_iconst (v := 0) hx hb dX6_speaks_2 (by decide) ?_
  obtain ⟨r2, h3, hf⟩ := ob1_some hf
  refine kVi (As := [.int p0, .int 0]) (rest := []) ⟨hx, hb, hml, hown, hts⟩ (okX6_manyOf l D cy ad A hD p0 0 S r2 h3) (cwV 2 hts gX6_speaks_X6_manyOf rfl rfl rfl (by decide +kernel) ⟨Nat.le_of_ble_eq_true rfl, Nat.le_of_ble_eq_true rfl⟩) hK hP hS (va_recv hK.1 hP (ci := 6) (q := (RX6, TX6, 21)) rfl (atM0 cy ad S)) rfl hl.1 rfl (Nat.le_of_ble_eq_true rfl) dX6_speaks_3 (fun H locs hP hS => ?_)
  refine lv_if_le (tgt := 13) hx hb dX6_speaks_6 (by decide) (fun c4 => ?_) (fun c4 => ?_)
  · have hf := (if_pos c4).symm.trans hf
    refine lv_iconst (v := 0) hx hb dX6_speaks_13 (by decide) ?_
    have he := Option.some.inj hf
    exact rZ hx hb hr (bi_nar false) hP hS (congrArg bi he) hlocks dX6_speaks_14
  · have hf := (if_neg c4).symm.trans hf
    refine lv_iconst (v := 1) hx hb dX6_speaks_9 (by decide) ?_
    refine lv_goto (tgt := 14) hx hb dX6_speaks_10 (by decide) ?_
    have he := Option.some.inj hf
    exact rZ hx hb hr (bi_nar true) hP hS (congrArg bi he) hlocks dX6_speaks_14

def bX6_there_4  (k4 : Int32 × Int32 × MS → Option Int32) (x1 : Int32) (x2 : Int32) (S : MS) : Option Int32 := (if 8 ≤ x2 then (some x1) else (ck x2 8 (if (ma S 1 x2.toNatClampNeg) = (-9) then (bnd ((x1 ||| 0)) (fun y19 => (k4 (y19, (x2 + 1), S)))) else (bnd ((x1 ||| ((1 : Int32) <<< (x2 &&& 31)))) (fun y20 => (k4 (y20, (x2 + 1), S)))))))
def fX6_there  (S : MS) : Option Int32 := (lp (fun k q => bX6_there_4  k q.1 q.2.1 q.2.2) FU (0, 0, S))
set_option maxHeartbeats 4000000 in
set_option maxRecDepth 100000 in
theorem okX6_there (l : Launch) (D : va_G) (cy : Nat → ClassId) (ad : Nat → Nat) (A : Nat → Prop) (hD : ∀ S, va_D A (wM cy ad S))  (S : MS) (r : Int32) (hf : fX6_there  S = some r) : MI l yX6_there wsX6_there { frames := 0, cells := 0, slots := 0, locals := 0 } D cy A (wM cy ad S) [.ref (ad 0)] r (wM cy ad S) := by
  refine Met.ofW (cc := cX6_there) (maxL := 3) (ret := (some .int)) (by decide) rfl ?_
  intro p e s m args below meth c s₁ B hml hv
  obtain ⟨ha, hP, hK⟩ := hv
  have hx := B.exec
  have hb := B.bytes
  have hr := B.returns
  have hts := atoms_spec (ws := wsX6_there) B.pre
  have hown : s.vm.findClass RX6 = some m.cls := findClass_of_methodNamed B.named
  have hlocks := B.notSynchronized
  have hS : va_S A s.heap s.heap [] := va_S.rf
  obtain ⟨ls, hl, he0⟩ := ent (m := m) ha (n := 3) (Nat.le_of_ble_eq_true rfl)
  refine W.eq he0 ?_
  have hl : lv_has ls 3 [(0, .ref (ad 0))] := hl
  have K4 : ∀ (n : Nat), ∀ (x1 : Int32) (x2 : Int32) (S : MS) (H : Heap) (locs : List Loc) (ls : Array Slot), va_P D vwCl (wM cy ad S) H → va_S A s.heap H locs → lv_has ls 3 [(0, .ref (ad 0)), (1, .int x1), (2, .int x2)] → lp (fun k q => bX6_there_4  k q.1 q.2.1 q.2.2) n (x1, x2, S) = some r → W p l e (headSpec wsX6_there { frames := 0, cells := 0, slots := 0, locals := 0 }).room s m args below meth c H locs 0 0 (MQ below (QcI D A r (wM cy ad S)) args s 0 0 A) (F0 m 4 ls []) := by
    intro  n
    induction n with
    | zero =>
      intro x1 x2 S H locs ls hP hS hl hf
      cases hf
    | succ n ih4 =>
      intro x1 x2 S H locs ls hP hS hl hf
      have hf : bX6_there_4  (lp (fun k q => bX6_there_4  k q.1 q.2.1 q.2.2) n) x1 x2 S = some r := hf
      generalize lp (fun k q => bX6_there_4  k q.1 q.2.1 q.2.2) n = k4 at hf ih4
      unfold bX6_there_4 at hf
      refine lv_iload_n hx hb dX6_there_4 rfl (lv_at hl 2 rfl) ?_
      refine lv_bipush (v := 8) hx hb dX6_there_5 (by decide) ?_
      refine lv_icmp_ge (tgt := 37) hx hb dX6_there_7 (by decide) (fun c16 => ?_) (fun c16 => ?_)
      · have hf := (if_pos c16).symm.trans hf
        refine lv_iload_n hx hb dX6_there_37 rfl (lv_at hl 1 rfl) ?_
        have he := Option.some.inj hf
        exact rI hx hb hr hP hS he hlocks dX6_there_38
      · have hf := (if_neg c16).symm.trans hf
        refine lv_iload_n hx hb dX6_there_10 rfl (lv_at hl 1 rfl) ?_
        refine lv_aload_n hx hb dX6_there_11 rfl (lv_at hl 0 rfl) ?_
        refine gfX6_0 hx hb hts (fun _ h => List.mem_cons_of_mem _ (List.mem_append_right _ h)) hown hK hP (hts (Cond.fieldLink RX6 7 "WhoSpeaksModel" "sortOf" "[I") (List.mem_of_getElem? (i := 1) rfl)) dX6_there_12 ?_
        refine lv_iload_n hx hb dX6_there_15 rfl (lv_at hl 2 rfl) ?_
        obtain ⟨c17, hf⟩ := ck_some hf
        refine alM1 hx hb hK hP c17 dX6_there_16 ?_
        refine lv_bipush (v := (-9)) hx hb dX6_there_17 (by decide) ?_
        refine lv_icmp_eq (tgt := 28) hx hb dX6_there_19 (by decide) (fun c18 => ?_) (fun c18 => ?_)
        · have hf := (if_pos c18).symm.trans hf
          refine lv_iconst (v := 0) hx hb dX6_there_28 (by decide) ?_
          refine lv_ior hx hb dX6_there_29 ?_
          refine lv_topi (fun y19 ey19 => ?_)
          have hf := bnd_of ey19 hf
          refine lv_istore_n (lv' := [(1, .int y19), (0, .ref (ad 0)), (2, .int x2)]) hx hb dX6_there_30 rfl hl (by decide) rfl (fun ls hl => ?_)
          refine lv_iinc (v := (x2 + 1)) (lv' := [(2, .int (x2 + 1)), (1, .int y19), (0, .ref (ad 0))]) hx hb dX6_there_31 hl (k := 2) rfl rfl (by decide) rfl (fun ls hl => ?_)
          refine lv_goto (tgt := 4) hx hb dX6_there_34 (by decide) ?_
          exact ih4 (y19) ((x2 + 1)) S H locs ls hP hS (lv_sub hl [2, 1, 0] rfl) hf
        · have hf := (if_neg c18).symm.trans hf
          refine lv_iconst (v := 1) hx hb dX6_there_22 (by decide) ?_
          refine lv_iload_n hx hb dX6_there_23 rfl (lv_at hl 2 rfl) ?_
          refine lv_ishl hx hb dX6_there_24 ?_
          refine lv_goto (tgt := 29) hx hb dX6_there_25 (by decide) ?_
          refine lv_ior hx hb dX6_there_29 ?_
          refine lv_topi (fun y20 ey20 => ?_)
          have hf := bnd_of ey20 hf
          refine lv_istore_n (lv' := [(1, .int y20), (0, .ref (ad 0)), (2, .int x2)]) hx hb dX6_there_30 rfl hl (by decide) rfl (fun ls hl => ?_)
          refine lv_iinc (v := (x2 + 1)) (lv' := [(2, .int (x2 + 1)), (1, .int y20), (0, .ref (ad 0))]) hx hb dX6_there_31 hl (k := 2) rfl rfl (by decide) rfl (fun ls hl => ?_)
          refine lv_goto (tgt := 4) hx hb dX6_there_34 (by decide) ?_
          exact ih4 (y20) ((x2 + 1)) S H locs ls hP hS (lv_sub hl [2, 1, 0] rfl) hf
  unfold fX6_there at hf
  suffices hG : ∀ (H : Heap) (locs : List Loc), va_P D vwCl (wM cy ad S) H → va_S A s.heap H locs → W p l e (headSpec wsX6_there { frames := 0, cells := 0, slots := 0, locals := 0 }).room s m args below meth c H locs 0 0 (MQ below (QcI D A r (wM cy ad S)) args s 0 0 A) (F0 m 0 ls []) by exact hG s.heap [] hP va_S.rf
  clear hP hS
  intro H locs hP hS
  refine lv_iconst (v := 0) hx hb dX6_there_0 (by decide) ?_
  refine lv_istore_n (lv' := [(1, .int 0), (0, .ref (ad 0))]) hx hb dX6_there_1 rfl hl (by decide) rfl (fun ls hl => ?_)
  refine lv_iconst (v := 0) hx hb dX6_there_2 (by decide) ?_
  refine lv_istore_n (lv' := [(2, .int 0), (1, .int 0), (0, .ref (ad 0))]) hx hb dX6_there_3 rfl hl (by decide) rfl (fun ls hl => ?_)
  exact K4  FU (0) (0) S H locs ls hP hS (lv_sub hl [2, 1, 0] rfl) hf

def fX6_has (p0 : Int32) (p1 : Int32) : Bool := (if ((p0 >>> (p1 &&& 31)) &&& 1) = 1 then true else false)
set_option maxHeartbeats 4000000 in
set_option maxRecDepth 100000 in
theorem okX6_has (l : Launch) (D : va_G) (cy : Nat → ClassId) (A : Nat → Prop) (w : va_W) (p0 : Int32) (p1 : Int32) (r : Bool) (hf : fX6_has p0 p1 = r) : MI l yX6_has wsX6_has { frames := 0, cells := 0, slots := 0, locals := 0 } D cy A w [.int p0, .int p1] (bi r) w := by
  refine Met.ofW (cc := cX6_has) (maxL := 2) (ret := (some .boolean)) (by decide) rfl ?_
  intro p e s m args below meth c s₁ B hml hv
  obtain ⟨ha, hP, hK⟩ := hv
  have hx := B.exec
  have hb := B.bytes
  have hr := B.returns
  have hts := atoms_spec (ws := wsX6_has) B.pre
  have hown : s.vm.findClass RX6 = some m.cls := findClass_of_methodNamed B.named
  have hlocks := B.notSynchronized
  have hS : va_S A s.heap s.heap [] := va_S.rf
  obtain ⟨ls, hl, he0⟩ := ent (m := m) ha (n := 2) (Nat.le_of_ble_eq_true rfl)
  refine W.eq he0 ?_
  have hl : lv_has ls 2 [(0, .int p0), (1, .int p1)] := hl
  unfold fX6_has at hf
  suffices hG : ∀ (H : Heap) (locs : List Loc), va_P D vwCl w H → va_S A s.heap H locs → W p l e (headSpec wsX6_has { frames := 0, cells := 0, slots := 0, locals := 0 }).room s m args below meth c H locs 0 0 (MQ below (QcI D A (bi r) w) args s 0 0 A) (F0 m 0 ls []) by exact hG s.heap [] hP va_S.rf
  clear hP hS
  intro H locs hP hS
  refine lv_iload_n hx hb dX6_has_0 rfl (lv_at hl 0 rfl) ?_
  refine lv_iload_n hx hb dX6_has_1 rfl (lv_at hl 1 rfl) ?_
  refine lv_ishr hx hb dX6_has_2 ?_
  refine lv_iconst (v := 1) hx hb dX6_has_3 (by decide) ?_
  refine lv_iand hx hb dX6_has_4 ?_
  refine lv_iconst (v := 1) hx hb dX6_has_5 (by decide) ?_
  refine lv_icmp_ne (tgt := 13) hx hb dX6_has_6 (by decide) (fun c2 => ?_) (fun c2 => ?_)
  · have hf := (if_neg c2).symm.trans hf
    refine lv_iconst (v := 0) hx hb dX6_has_13 (by decide) ?_
    have he := hf
    exact rZ hx hb hr (bi_nar false) hP hS (congrArg bi he) hlocks dX6_has_14
  · have hf := (if_pos c2).symm.trans hf
    refine lv_iconst (v := 1) hx hb dX6_has_9 (by decide) ?_
    refine lv_goto (tgt := 14) hx hb dX6_has_10 (by decide) ?_
    have he := hf
    exact rZ hx hb hr (bi_nar true) hP hS (congrArg bi he) hlocks dX6_has_14

def fX6_isItem (p0 : Int32) (p1 : Int32) (p2 : Int32) (S : MS) : Option Bool := (ck p0 16 (if (bi (fX6_within p1 0 ((ma S 3 p0.toNatClampNeg) - 1))) = 0 then (some false) else (ck ((12 * p0) + p1) 192 (if (ma S 4 ((12 * p0) + p1).toNatClampNeg) = p2 then (some true) else (some false)))))
set_option maxHeartbeats 4000000 in
set_option maxRecDepth 100000 in
theorem okX6_isItem (l : Launch) (D : va_G) (cy : Nat → ClassId) (ad : Nat → Nat) (A : Nat → Prop) (hD : ∀ S, va_D A (wM cy ad S)) (p0 : Int32) (p1 : Int32) (p2 : Int32) (S : MS) (r : Bool) (hf : fX6_isItem p0 p1 p2 S = some r) : MI l yX6_isItem wsX6_isItem { frames := 1, cells := 0, slots := 0, locals := 22 } D cy A (wM cy ad S) [.ref (ad 0), .int p0, .int p1, .int p2] (bi r) (wM cy ad S) := by
  refine Met.ofW (cc := cX6_isItem) (maxL := 4) (ret := (some .boolean)) (by decide) rfl ?_
  intro p e s m args below meth c s₁ B hml hv
  obtain ⟨ha, hP, hK⟩ := hv
  have hx := B.exec
  have hb := B.bytes
  have hr := B.returns
  have hts := atoms_spec (ws := wsX6_isItem) B.pre
  have hown : s.vm.findClass RX6 = some m.cls := findClass_of_methodNamed B.named
  have hlocks := B.notSynchronized
  have hS : va_S A s.heap s.heap [] := va_S.rf
  obtain ⟨ls, hl, he0⟩ := ent (m := m) ha (n := 4) (Nat.le_of_ble_eq_true rfl)
  refine W.eq he0 ?_
  have hl : lv_has ls 4 [(0, .ref (ad 0)), (1, .int p0), (2, .int p1), (3, .int p2)] := hl
  unfold fX6_isItem at hf
  suffices hG : ∀ (H : Heap) (locs : List Loc), va_P D vwCl (wM cy ad S) H → va_S A s.heap H locs → W p l e (headSpec wsX6_isItem { frames := 1, cells := 0, slots := 0, locals := 22 }).room s m args below meth c H locs 0 0 (MQ below (QcI D A (bi r) (wM cy ad S)) args s 0 0 A) (F0 m 0 ls []) by exact hG s.heap [] hP va_S.rf
  clear hP hS
  intro H locs hP hS
  refine lv_iload_n hx hb dX6_isItem_0 rfl (lv_at hl 2 rfl) ?_
  refine lv_iconst (v := 0) hx hb dX6_isItem_1 (by decide) ?_
  refine lv_aload_n hx hb dX6_isItem_2 rfl (lv_at hl 0 rfl) ?_
  refine gfX6_6 hx hb hts (fun _ h => List.mem_cons_of_mem _ (List.mem_append_right _ h)) hown hK hP (hts (Cond.fieldLink RX6 20 "WhoSpeaksModel" "itemsOf" "[I") (List.mem_of_getElem? (i := 1) rfl)) dX6_isItem_3 ?_
  refine lv_iload_n hx hb dX6_isItem_6 rfl (lv_at hl 1 rfl) ?_
  obtain ⟨c5, hf⟩ := ck_some hf
  refine alM3 hx hb hK hP c5 dX6_isItem_7 ?_
  refine lv_iconst (v := 1) hx hb dX6_isItem_8 (by decide) ?_
  refine lv_isub hx hb dX6_isItem_9 ?_
  refine kSi (As := [.int p1, .int 0, .int ((ma S 3 p0.toNatClampNeg) - 1)]) (rest := []) ⟨hx, hb, hml, hown, hts⟩ (okX6_within l D cy A (wM cy ad S) p1 0 ((ma S 3 p0.toNatClampNeg) - 1) _ rfl) (va_cwS 3 hts gX6_isItem_X6_within rfl rfl rfl (by decide +kernel) ⟨Nat.le_of_ble_eq_true rfl, Nat.le_of_ble_eq_true rfl⟩) hK hP hS rfl hl.1 rfl (Nat.le_of_ble_eq_true rfl) dX6_isItem_10 (fun H locs hP hS => ?_)
  refine lv_if_eq (tgt := 35) hx hb dX6_isItem_13 (by decide) (fun c7 => ?_) (fun c7 => ?_)
  · have hf := (if_pos c7).symm.trans hf
    refine lv_iconst (v := 0) hx hb dX6_isItem_35 (by decide) ?_
    have he := Option.some.inj hf
    exact rZ hx hb hr (bi_nar false) hP hS (congrArg bi he) hlocks dX6_isItem_36
  · have hf := (if_neg c7).symm.trans hf
    refine lv_aload_n hx hb dX6_isItem_16 rfl (lv_at hl 0 rfl) ?_
    refine gfX6_7 hx hb hts (fun _ h => List.mem_cons_of_mem _ (List.mem_append_right _ h)) hown hK hP (hts (Cond.fieldLink RX6 23 "WhoSpeaksModel" "item" "[I") (List.mem_of_getElem? (i := 2) rfl)) dX6_isItem_17 ?_
    refine lv_bipush (v := 12) hx hb dX6_isItem_20 (by decide) ?_
    refine lv_iload_n hx hb dX6_isItem_22 rfl (lv_at hl 1 rfl) ?_
    refine lv_imul hx hb dX6_isItem_23 ?_
    refine lv_iload_n hx hb dX6_isItem_24 rfl (lv_at hl 2 rfl) ?_
    refine lv_iadd hx hb dX6_isItem_25 ?_
    obtain ⟨c8, hf⟩ := ck_some hf
    refine alM4 hx hb hK hP c8 dX6_isItem_26 ?_
    refine lv_iload_n hx hb dX6_isItem_27 rfl (lv_at hl 3 rfl) ?_
    refine lv_icmp_ne (tgt := 35) hx hb dX6_isItem_28 (by decide) (fun c9 => ?_) (fun c9 => ?_)
    · have hf := (if_neg c9).symm.trans hf
      refine lv_iconst (v := 0) hx hb dX6_isItem_35 (by decide) ?_
      have he := Option.some.inj hf
      exact rZ hx hb hr (bi_nar false) hP hS (congrArg bi he) hlocks dX6_isItem_36
    · have hf := (if_pos c9).symm.trans hf
      refine lv_iconst (v := 1) hx hb dX6_isItem_31 (by decide) ?_
      refine lv_goto (tgt := 36) hx hb dX6_isItem_32 (by decide) ?_
      have he := Option.some.inj hf
      exact rZ hx hb hr (bi_nar true) hP hS (congrArg bi he) hlocks dX6_isItem_36

def fX6_isWho (p0 : Int32) (p1 : Int32) (S : MS) : Option Bool := (ck p0 16 (if (bi (fX6_within p1 0 ((ma S 3 p0.toNatClampNeg) - 1))) = 0 then (some false) else (ck ((12 * p0) + p1) 192 (if (ma S 4 ((12 * p0) + p1).toNatClampNeg) < 3 then (some false) else (some true)))))
set_option maxHeartbeats 4000000 in
set_option maxRecDepth 100000 in
theorem okX6_isWho (l : Launch) (D : va_G) (cy : Nat → ClassId) (ad : Nat → Nat) (A : Nat → Prop) (hD : ∀ S, va_D A (wM cy ad S)) (p0 : Int32) (p1 : Int32) (S : MS) (r : Bool) (hf : fX6_isWho p0 p1 S = some r) : MI l yX6_isWho wsX6_isWho { frames := 1, cells := 0, slots := 0, locals := 22 } D cy A (wM cy ad S) [.ref (ad 0), .int p0, .int p1] (bi r) (wM cy ad S) := by
  refine Met.ofW (cc := cX6_isWho) (maxL := 3) (ret := (some .boolean)) (by decide) rfl ?_
  intro p e s m args below meth c s₁ B hml hv
  obtain ⟨ha, hP, hK⟩ := hv
  have hx := B.exec
  have hb := B.bytes
  have hr := B.returns
  have hts := atoms_spec (ws := wsX6_isWho) B.pre
  have hown : s.vm.findClass RX6 = some m.cls := findClass_of_methodNamed B.named
  have hlocks := B.notSynchronized
  have hS : va_S A s.heap s.heap [] := va_S.rf
  obtain ⟨ls, hl, he0⟩ := ent (m := m) ha (n := 3) (Nat.le_of_ble_eq_true rfl)
  refine W.eq he0 ?_
  have hl : lv_has ls 3 [(0, .ref (ad 0)), (1, .int p0), (2, .int p1)] := hl
  unfold fX6_isWho at hf
  suffices hG : ∀ (H : Heap) (locs : List Loc), va_P D vwCl (wM cy ad S) H → va_S A s.heap H locs → W p l e (headSpec wsX6_isWho { frames := 1, cells := 0, slots := 0, locals := 22 }).room s m args below meth c H locs 0 0 (MQ below (QcI D A (bi r) (wM cy ad S)) args s 0 0 A) (F0 m 0 ls []) by exact hG s.heap [] hP va_S.rf
  clear hP hS
  intro H locs hP hS
  refine lv_iload_n hx hb dX6_isWho_0 rfl (lv_at hl 2 rfl) ?_
  refine lv_iconst (v := 0) hx hb dX6_isWho_1 (by decide) ?_
  refine lv_aload_n hx hb dX6_isWho_2 rfl (lv_at hl 0 rfl) ?_
  refine gfX6_6 hx hb hts (fun _ h => List.mem_cons_of_mem _ (List.mem_append_right _ h)) hown hK hP (hts (Cond.fieldLink RX6 20 "WhoSpeaksModel" "itemsOf" "[I") (List.mem_of_getElem? (i := 1) rfl)) dX6_isWho_3 ?_
  refine lv_iload_n hx hb dX6_isWho_6 rfl (lv_at hl 1 rfl) ?_
  obtain ⟨c5, hf⟩ := ck_some hf
  refine alM3 hx hb hK hP c5 dX6_isWho_7 ?_
  refine lv_iconst (v := 1) hx hb dX6_isWho_8 (by decide) ?_
  refine lv_isub hx hb dX6_isWho_9 ?_
  refine kSi (As := [.int p1, .int 0, .int ((ma S 3 p0.toNatClampNeg) - 1)]) (rest := []) ⟨hx, hb, hml, hown, hts⟩ (okX6_within l D cy A (wM cy ad S) p1 0 ((ma S 3 p0.toNatClampNeg) - 1) _ rfl) (va_cwS 3 hts gX6_isWho_X6_within rfl rfl rfl (by decide +kernel) ⟨Nat.le_of_ble_eq_true rfl, Nat.le_of_ble_eq_true rfl⟩) hK hP hS rfl hl.1 rfl (Nat.le_of_ble_eq_true rfl) dX6_isWho_10 (fun H locs hP hS => ?_)
  refine lv_if_eq (tgt := 35) hx hb dX6_isWho_13 (by decide) (fun c7 => ?_) (fun c7 => ?_)
  · have hf := (if_pos c7).symm.trans hf
    refine lv_iconst (v := 0) hx hb dX6_isWho_35 (by decide) ?_
    have he := Option.some.inj hf
    exact rZ hx hb hr (bi_nar false) hP hS (congrArg bi he) hlocks dX6_isWho_36
  · have hf := (if_neg c7).symm.trans hf
    refine lv_aload_n hx hb dX6_isWho_16 rfl (lv_at hl 0 rfl) ?_
    refine gfX6_7 hx hb hts (fun _ h => List.mem_cons_of_mem _ (List.mem_append_right _ h)) hown hK hP (hts (Cond.fieldLink RX6 23 "WhoSpeaksModel" "item" "[I") (List.mem_of_getElem? (i := 2) rfl)) dX6_isWho_17 ?_
    refine lv_bipush (v := 12) hx hb dX6_isWho_20 (by decide) ?_
    refine lv_iload_n hx hb dX6_isWho_22 rfl (lv_at hl 1 rfl) ?_
    refine lv_imul hx hb dX6_isWho_23 ?_
    refine lv_iload_n hx hb dX6_isWho_24 rfl (lv_at hl 2 rfl) ?_
    refine lv_iadd hx hb dX6_isWho_25 ?_
    obtain ⟨c8, hf⟩ := ck_some hf
    refine alM4 hx hb hK hP c8 dX6_isWho_26 ?_
    refine lv_iconst (v := 3) hx hb dX6_isWho_27 (by decide) ?_
    refine lv_icmp_lt (tgt := 35) hx hb dX6_isWho_28 (by decide) (fun c9 => ?_) (fun c9 => ?_)
    · have hf := (if_pos c9).symm.trans hf
      refine lv_iconst (v := 0) hx hb dX6_isWho_35 (by decide) ?_
      have he := Option.some.inj hf
      exact rZ hx hb hr (bi_nar false) hP hS (congrArg bi he) hlocks dX6_isWho_36
    · have hf := (if_neg c9).symm.trans hf
      refine lv_iconst (v := 1) hx hb dX6_isWho_31 (by decide) ?_
      refine lv_goto (tgt := 36) hx hb dX6_isWho_32 (by decide) ?_
      have he := Option.some.inj hf
      exact rZ hx hb hr (bi_nar true) hP hS (congrArg bi he) hlocks dX6_isWho_36

def fX6_whoOf (p0 : Int32) (p1 : Int32) (S : MS) : Option Int32 := (ob1 (fX6_isWho p0 (p1 + 1) S) (fun r3 => (if (bi r3) = 0 then (ob1 (fX6_isWho p0 (p1 - 1) S) (fun r6 => (if (bi r6) = 0 then (some (-9)) else (some (p1 - 1))))) else (some (p1 + 1)))))
set_option maxHeartbeats 4000000 in
set_option maxRecDepth 100000 in
theorem okX6_whoOf (l : Launch) (D : va_G) (cy : Nat → ClassId) (ad : Nat → Nat) (A : Nat → Prop) (hD : ∀ S, va_D A (wM cy ad S)) (p0 : Int32) (p1 : Int32) (S : MS) (r : Int32) (hf : fX6_whoOf p0 p1 S = some r) : MI l yX6_whoOf wsX6_whoOf { frames := 2, cells := 0, slots := 0, locals := 44 } D cy A (wM cy ad S) [.ref (ad 0), .int p0, .int p1] r (wM cy ad S) := by
  refine Met.ofW (cc := cX6_whoOf) (maxL := 3) (ret := (some .int)) (by decide) rfl ?_
  intro p e s m args below meth c s₁ B hml hv
  obtain ⟨ha, hP, hK⟩ := hv
  have hx := B.exec
  have hb := B.bytes
  have hr := B.returns
  have hts := atoms_spec (ws := wsX6_whoOf) B.pre
  have hown : s.vm.findClass RX6 = some m.cls := findClass_of_methodNamed B.named
  have hlocks := B.notSynchronized
  have hS : va_S A s.heap s.heap [] := va_S.rf
  obtain ⟨ls, hl, he0⟩ := ent (m := m) ha (n := 3) (Nat.le_of_ble_eq_true rfl)
  refine W.eq he0 ?_
  have hl : lv_has ls 3 [(0, .ref (ad 0)), (1, .int p0), (2, .int p1)] := hl
  unfold fX6_whoOf at hf
  suffices hG : ∀ (H : Heap) (locs : List Loc), va_P D vwCl (wM cy ad S) H → va_S A s.heap H locs → W p l e (headSpec wsX6_whoOf { frames := 2, cells := 0, slots := 0, locals := 44 }).room s m args below meth c H locs 0 0 (MQ below (QcI D A r (wM cy ad S)) args s 0 0 A) (F0 m 0 ls []) by exact hG s.heap [] hP va_S.rf
  clear hP hS
  intro H locs hP hS
  refine lv_aload_n hx hb dX6_whoOf_0 rfl (lv_at hl 0 rfl) ?_
  refine lv_iload_n hx hb dX6_whoOf_1 rfl (lv_at hl 1 rfl) ?_
  refine lv_iload_n hx hb dX6_whoOf_2 rfl (lv_at hl 2 rfl) ?_
  refine lv_iconst (v := 1) hx hb dX6_whoOf_3 (by decide) ?_
  refine lv_iadd hx hb dX6_whoOf_4 ?_
  obtain ⟨r3, h4, hf⟩ := ob1_some hf
  refine kVi (As := [.int p0, .int (p1 + 1)]) (rest := []) ⟨hx, hb, hml, hown, hts⟩ (okX6_isWho l D cy ad A hD p0 (p1 + 1) S r3 h4) (cwV 2 hts gX6_whoOf_X6_isWho rfl rfl rfl (by decide +kernel) ⟨Nat.le_of_ble_eq_true rfl, Nat.le_of_ble_eq_true rfl⟩) hK hP hS (va_recv hK.1 hP (ci := 6) (q := (RX6, TX6, 21)) rfl (atM0 cy ad S)) rfl hl.1 rfl (Nat.le_of_ble_eq_true rfl) dX6_whoOf_5 (fun H locs hP hS => ?_)
  refine lv_if_eq (tgt := 17) hx hb dX6_whoOf_8 (by decide) (fun c5 => ?_) (fun c5 => ?_)
  · have hf := (if_pos c5).symm.trans hf
    refine lv_aload_n hx hb dX6_whoOf_17 rfl (lv_at hl 0 rfl) ?_
    refine lv_iload_n hx hb dX6_whoOf_18 rfl (lv_at hl 1 rfl) ?_
    refine lv_iload_n hx hb dX6_whoOf_19 rfl (lv_at hl 2 rfl) ?_
    refine lv_iconst (v := 1) hx hb dX6_whoOf_20 (by decide) ?_
    refine lv_isub hx hb dX6_whoOf_21 ?_
    obtain ⟨r6, h7, hf⟩ := ob1_some hf
    refine kVi (As := [.int p0, .int (p1 - 1)]) (rest := []) ⟨hx, hb, hml, hown, hts⟩ (okX6_isWho l D cy ad A hD p0 (p1 - 1) S r6 h7) (cwV 2 hts gX6_whoOf_X6_isWho rfl rfl rfl (by decide +kernel) ⟨Nat.le_of_ble_eq_true rfl, Nat.le_of_ble_eq_true rfl⟩) hK hP hS (va_recv hK.1 hP (ci := 6) (q := (RX6, TX6, 21)) rfl (atM0 cy ad S)) rfl hl.1 rfl (Nat.le_of_ble_eq_true rfl) dX6_whoOf_22 (fun H locs hP hS => ?_)
    refine lv_if_eq (tgt := 34) hx hb dX6_whoOf_25 (by decide) (fun c8 => ?_) (fun c8 => ?_)
    · have hf := (if_pos c8).symm.trans hf
      refine lv_bipush (v := (-9)) hx hb dX6_whoOf_34 (by decide) ?_
      have he := Option.some.inj hf
      exact rI hx hb hr hP hS he hlocks dX6_whoOf_36
    · have hf := (if_neg c8).symm.trans hf
      refine lv_iload_n hx hb dX6_whoOf_28 rfl (lv_at hl 2 rfl) ?_
      refine lv_iconst (v := 1) hx hb dX6_whoOf_29 (by decide) ?_
      refine lv_isub hx hb dX6_whoOf_30 ?_
      refine lv_goto (tgt := 36) hx hb dX6_whoOf_31 (by decide) ?_
      have he := Option.some.inj hf
      exact rI hx hb hr hP hS he hlocks dX6_whoOf_36
  · have hf := (if_neg c5).symm.trans hf
    refine lv_iload_n hx hb dX6_whoOf_11 rfl (lv_at hl 2 rfl) ?_
    refine lv_iconst (v := 1) hx hb dX6_whoOf_12 (by decide) ?_
    refine lv_iadd hx hb dX6_whoOf_13 ?_
    refine lv_goto (tgt := 36) hx hb dX6_whoOf_14 (by decide) ?_
    have he := Option.some.inj hf
    exact rI hx hb hr hP hS he hlocks dX6_whoOf_36

def bX6_counts_40  (x1 : Int32) (s0 : Int32) (S : MS) : Option Bool := (ob1 (fX6_isItem x1 (s0 - 1) 0 S) (fun r9 => (if (bi r9) = 0 then (ob1 (fX6_isItem x1 (s0 + 2) 0 S) (fun r12 => (if (bi r12) = 0 then (some false) else (some true)))) else (some true))))
def fX6_counts (p0 : Int32) (p1 : Int32) (S : MS) : Option Bool := (ob1 (fX6_isItem p0 p1 1 S) (fun r15 => (if (bi r15) = 0 then (some false) else (ob1 (fX6_whoOf p0 p1 S) (fun r18 => (if r18 = (-9) then (some false) else (ob1 (fX6_whoOf p0 p1 S) (fun r21 => (if p1 ≤ r21 then (bX6_counts_40  (p0) (p1) S) else (bX6_counts_40  (p0) ((p1 - 1)) S))))))))))
set_option maxHeartbeats 4000000 in
set_option maxRecDepth 100000 in
theorem okX6_counts (l : Launch) (D : va_G) (cy : Nat → ClassId) (ad : Nat → Nat) (A : Nat → Prop) (hD : ∀ S, va_D A (wM cy ad S)) (p0 : Int32) (p1 : Int32) (S : MS) (r : Bool) (hf : fX6_counts p0 p1 S = some r) : MI l yX6_counts wsX6_counts { frames := 3, cells := 0, slots := 0, locals := 66 } D cy A (wM cy ad S) [.ref (ad 0), .int p0, .int p1] (bi r) (wM cy ad S) := by
  refine Met.ofW (cc := cX6_counts) (maxL := 4) (ret := (some .boolean)) (by decide) rfl ?_
  intro p e s m args below meth c s₁ B hml hv
  obtain ⟨ha, hP, hK⟩ := hv
  have hx := B.exec
  have hb := B.bytes
  have hr := B.returns
  have hts := atoms_spec (ws := wsX6_counts) B.pre
  have hown : s.vm.findClass RX6 = some m.cls := findClass_of_methodNamed B.named
  have hlocks := B.notSynchronized
  have hS : va_S A s.heap s.heap [] := va_S.rf
  obtain ⟨ls, hl, he0⟩ := ent (m := m) ha (n := 4) (Nat.le_of_ble_eq_true rfl)
  refine W.eq he0 ?_
  have hl : lv_has ls 4 [(0, .ref (ad 0)), (1, .int p0), (2, .int p1)] := hl
  have K40 : ∀ (x1 : Int32) (s0 : Int32) (S : MS) (H : Heap) (locs : List Loc) (ls : Array Slot), va_P D vwCl (wM cy ad S) H → va_S A s.heap H locs → lv_has ls 4 [(0, .ref (ad 0)), (1, .int x1)] → bX6_counts_40  x1 s0 S = some r → W p l e (headSpec wsX6_counts { frames := 3, cells := 0, slots := 0, locals := 66 }).room s m args below meth c H locs 0 0 (MQ below (QcI D A (bi r) (wM cy ad S)) args s 0 0 A) (F0 m 40 ls [.int s0]) := by
    intro  x1 s0 S H locs ls hP hS hl hf
    unfold bX6_counts_40 at hf
    refine lv_istore_n (lv' := [(3, .int s0), (0, .ref (ad 0)), (1, .int x1)]) hx hb dX6_counts_40 rfl hl (by decide) rfl (fun ls hl => ?_)
    refine lv_aload_n hx hb dX6_counts_41 rfl (lv_at hl 1 rfl) ?_
    refine lv_iload_n hx hb dX6_counts_42 rfl (lv_at hl 2 rfl) ?_
    refine lv_iload_n hx hb dX6_counts_43 rfl (lv_at hl 0 rfl) ?_
    refine lv_iconst (v := 1) hx hb dX6_counts_44 (by decide) ?_
    refine lv_isub hx hb dX6_counts_45 ?_
    refine lv_iconst (v := 0) hx hb dX6_counts_46 (by decide) ?_
    obtain ⟨r9, h10, hf⟩ := ob1_some hf
    refine kVi (As := [.int x1, .int (s0 - 1), .int 0]) (rest := []) ⟨hx, hb, hml, hown, hts⟩ (okX6_isItem l D cy ad A hD x1 (s0 - 1) 0 S r9 h10) (cwV 3 hts gX6_counts_X6_isItem rfl rfl rfl (by decide +kernel) ⟨Nat.le_of_ble_eq_true rfl, Nat.le_of_ble_eq_true rfl⟩) hK hP hS (va_recv hK.1 hP (ci := 6) (q := (RX6, TX6, 21)) rfl (atM0 cy ad S)) rfl hl.1 rfl (Nat.le_of_ble_eq_true rfl) dX6_counts_47 (fun H locs hP hS => ?_)
    refine lv_if_ne (tgt := 65) hx hb dX6_counts_50 (by decide) (fun c11 => ?_) (fun c11 => ?_)
    · have hf := (if_neg c11).symm.trans hf
      refine lv_iconst (v := 1) hx hb dX6_counts_65 (by decide) ?_
      refine lv_goto (tgt := 70) hx hb dX6_counts_66 (by decide) ?_
      have he := Option.some.inj hf
      exact rZ hx hb hr (bi_nar true) hP hS (congrArg bi he) hlocks dX6_counts_70
    · have hf := (if_pos c11).symm.trans hf
      refine lv_aload_n hx hb dX6_counts_53 rfl (lv_at hl 1 rfl) ?_
      refine lv_iload_n hx hb dX6_counts_54 rfl (lv_at hl 2 rfl) ?_
      refine lv_iload_n hx hb dX6_counts_55 rfl (lv_at hl 0 rfl) ?_
      refine lv_iconst (v := 2) hx hb dX6_counts_56 (by decide) ?_
      refine lv_iadd hx hb dX6_counts_57 ?_
      refine lv_iconst (v := 0) hx hb dX6_counts_58 (by decide) ?_
      obtain ⟨r12, h13, hf⟩ := ob1_some hf
      refine kVi (As := [.int x1, .int (s0 + 2), .int 0]) (rest := []) ⟨hx, hb, hml, hown, hts⟩ (okX6_isItem l D cy ad A hD x1 (s0 + 2) 0 S r12 h13) (cwV 3 hts gX6_counts_X6_isItem rfl rfl rfl (by decide +kernel) ⟨Nat.le_of_ble_eq_true rfl, Nat.le_of_ble_eq_true rfl⟩) hK hP hS (va_recv hK.1 hP (ci := 6) (q := (RX6, TX6, 21)) rfl (atM0 cy ad S)) rfl hl.1 rfl (Nat.le_of_ble_eq_true rfl) dX6_counts_59 (fun H locs hP hS => ?_)
      refine lv_if_eq (tgt := 69) hx hb dX6_counts_62 (by decide) (fun c14 => ?_) (fun c14 => ?_)
      · have hf := (if_pos c14).symm.trans hf
        refine lv_iconst (v := 0) hx hb dX6_counts_69 (by decide) ?_
        have he := Option.some.inj hf
        exact rZ hx hb hr (bi_nar false) hP hS (congrArg bi he) hlocks dX6_counts_70
      · have hf := (if_neg c14).symm.trans hf
        refine lv_iconst (v := 1) hx hb dX6_counts_65 (by decide) ?_
        refine lv_goto (tgt := 70) hx hb dX6_counts_66 (by decide) ?_
        have he := Option.some.inj hf
        exact rZ hx hb hr (bi_nar true) hP hS (congrArg bi he) hlocks dX6_counts_70
  unfold fX6_counts at hf
  suffices hG : ∀ (H : Heap) (locs : List Loc), va_P D vwCl (wM cy ad S) H → va_S A s.heap H locs → W p l e (headSpec wsX6_counts { frames := 3, cells := 0, slots := 0, locals := 66 }).room s m args below meth c H locs 0 0 (MQ below (QcI D A (bi r) (wM cy ad S)) args s 0 0 A) (F0 m 0 ls []) by exact hG s.heap [] hP va_S.rf
  clear hP hS
  intro H locs hP hS
  refine lv_aload_n hx hb dX6_counts_0 rfl (lv_at hl 0 rfl) ?_
  refine lv_iload_n hx hb dX6_counts_1 rfl (lv_at hl 1 rfl) ?_
  refine lv_iload_n hx hb dX6_counts_2 rfl (lv_at hl 2 rfl) ?_
  refine lv_iconst (v := 1) hx hb dX6_counts_3 (by decide) ?_
  obtain ⟨r15, h16, hf⟩ := ob1_some hf
  refine kVi (As := [.int p0, .int p1, .int 1]) (rest := []) ⟨hx, hb, hml, hown, hts⟩ (okX6_isItem l D cy ad A hD p0 p1 1 S r15 h16) (cwV 3 hts gX6_counts_X6_isItem rfl rfl rfl (by decide +kernel) ⟨Nat.le_of_ble_eq_true rfl, Nat.le_of_ble_eq_true rfl⟩) hK hP hS (va_recv hK.1 hP (ci := 6) (q := (RX6, TX6, 21)) rfl (atM0 cy ad S)) rfl hl.1 rfl (Nat.le_of_ble_eq_true rfl) dX6_counts_4 (fun H locs hP hS => ?_)
  refine lv_if_eq (tgt := 21) hx hb dX6_counts_7 (by decide) (fun c17 => ?_) (fun c17 => ?_)
  · have hf := (if_pos c17).symm.trans hf
    refine lv_iconst (v := 0) hx hb dX6_counts_21 (by decide) ?_
    have he := Option.some.inj hf
    exact rZ hx hb hr (bi_nar false) hP hS (congrArg bi he) hlocks dX6_counts_22
  · have hf := (if_neg c17).symm.trans hf
    refine lv_aload_n hx hb dX6_counts_10 rfl (lv_at hl 0 rfl) ?_
    refine lv_iload_n hx hb dX6_counts_11 rfl (lv_at hl 1 rfl) ?_
    refine lv_iload_n hx hb dX6_counts_12 rfl (lv_at hl 2 rfl) ?_
    obtain ⟨r18, h19, hf⟩ := ob1_some hf
    refine kVi (As := [.int p0, .int p1]) (rest := []) ⟨hx, hb, hml, hown, hts⟩ (okX6_whoOf l D cy ad A hD p0 p1 S r18 h19) (cwV 2 hts gX6_counts_X6_whoOf rfl rfl rfl (by decide +kernel) ⟨Nat.le_of_ble_eq_true rfl, Nat.le_of_ble_eq_true rfl⟩) hK hP hS (va_recv hK.1 hP (ci := 6) (q := (RX6, TX6, 21)) rfl (atM0 cy ad S)) rfl hl.1 rfl (Nat.le_of_ble_eq_true rfl) dX6_counts_13 (fun H locs hP hS => ?_)
    refine lv_bipush (v := (-9)) hx hb dX6_counts_16 (by decide) ?_
    refine lv_icmp_ne (tgt := 23) hx hb dX6_counts_18 (by decide) (fun c20 => ?_) (fun c20 => ?_)
    · have hf := (if_neg c20).symm.trans hf
      refine lv_aload_n hx hb dX6_counts_23 rfl (lv_at hl 0 rfl) ?_
      refine lv_iload_n hx hb dX6_counts_24 rfl (lv_at hl 1 rfl) ?_
      refine lv_iload_n hx hb dX6_counts_25 rfl (lv_at hl 2 rfl) ?_
      obtain ⟨r21, h22, hf⟩ := ob1_some hf
      refine kVi (As := [.int p0, .int p1]) (rest := []) ⟨hx, hb, hml, hown, hts⟩ (okX6_whoOf l D cy ad A hD p0 p1 S r21 h22) (cwV 2 hts gX6_counts_X6_whoOf rfl rfl rfl (by decide +kernel) ⟨Nat.le_of_ble_eq_true rfl, Nat.le_of_ble_eq_true rfl⟩) hK hP hS (va_recv hK.1 hP (ci := 6) (q := (RX6, TX6, 21)) rfl (atM0 cy ad S)) rfl hl.1 rfl (Nat.le_of_ble_eq_true rfl) dX6_counts_26 (fun H locs hP hS => ?_)
      refine lv_iload_n hx hb dX6_counts_29 rfl (lv_at hl 2 rfl) ?_
      refine lv_icmp_ge (tgt := 39) hx hb dX6_counts_30 (by decide) (fun c23 => ?_) (fun c23 => ?_)
      · have hf := (if_pos c23).symm.trans hf
        refine lv_iload_n hx hb dX6_counts_39 rfl (lv_at hl 2 rfl) ?_
        exact K40  (p0) (p1) S H locs ls hP hS (lv_sub hl [0, 1] rfl) hf
      · have hf := (if_neg c23).symm.trans hf
        refine lv_iload_n hx hb dX6_counts_33 rfl (lv_at hl 2 rfl) ?_
        refine lv_iconst (v := 1) hx hb dX6_counts_34 (by decide) ?_
        refine lv_isub hx hb dX6_counts_35 ?_
        refine lv_goto (tgt := 40) hx hb dX6_counts_36 (by decide) ?_
        exact K40  (p0) ((p1 - 1)) S H locs ls hP hS (lv_sub hl [0, 1] rfl) hf
    · have hf := (if_pos c20).symm.trans hf
      refine lv_iconst (v := 0) hx hb dX6_counts_21 (by decide) ?_
      have he := Option.some.inj hf
      exact rZ hx hb hr (bi_nar false) hP hS (congrArg bi he) hlocks dX6_counts_22

def bX6_manyCounting_4  (k4 : Int32 × Int32 × Int32 × MS → Option Int32) (x1 : Int32) (x2 : Int32) (x3 : Int32) (S : MS) : Option Int32 := (ck x1 16 (if (ma S 3 x1.toNatClampNeg) ≤ x3 then (some x2) else (ob1 (fX6_counts x1 x3 S) (fun r18 => (if (bi r18) = 0 then (bnd ((x2 + 0)) (fun y21 => (k4 (x1, y21, (x3 + 1), S)))) else (bnd ((x2 + 1)) (fun y22 => (k4 (x1, y22, (x3 + 1), S)))))))))
def fX6_manyCounting (p0 : Int32) (S : MS) : Option Int32 := (lp (fun k q => bX6_manyCounting_4  k q.1 q.2.1 q.2.2.1 q.2.2.2) FU (p0, 0, 0, S))
set_option maxHeartbeats 4000000 in
set_option maxRecDepth 100000 in
theorem okX6_manyCounting (l : Launch) (D : va_G) (cy : Nat → ClassId) (ad : Nat → Nat) (A : Nat → Prop) (hD : ∀ S, va_D A (wM cy ad S)) (p0 : Int32) (S : MS) (r : Int32) (hf : fX6_manyCounting p0 S = some r) : MI l yX6_manyCounting wsX6_manyCounting { frames := 4, cells := 0, slots := 0, locals := 89 } D cy A (wM cy ad S) [.ref (ad 0), .int p0] r (wM cy ad S) := by
  refine Met.ofW (cc := cX6_manyCounting) (maxL := 4) (ret := (some .int)) (by decide) rfl ?_
  intro p e s m args below meth c s₁ B hml hv
  obtain ⟨ha, hP, hK⟩ := hv
  have hx := B.exec
  have hb := B.bytes
  have hr := B.returns
  have hts := atoms_spec (ws := wsX6_manyCounting) B.pre
  have hown : s.vm.findClass RX6 = some m.cls := findClass_of_methodNamed B.named
  have hlocks := B.notSynchronized
  have hS : va_S A s.heap s.heap [] := va_S.rf
  obtain ⟨ls, hl, he0⟩ := ent (m := m) ha (n := 4) (Nat.le_of_ble_eq_true rfl)
  refine W.eq he0 ?_
  have hl : lv_has ls 4 [(0, .ref (ad 0)), (1, .int p0)] := hl
  have K4 : ∀ (n : Nat), ∀ (x1 : Int32) (x2 : Int32) (x3 : Int32) (S : MS) (H : Heap) (locs : List Loc) (ls : Array Slot), va_P D vwCl (wM cy ad S) H → va_S A s.heap H locs → lv_has ls 4 [(0, .ref (ad 0)), (1, .int x1), (2, .int x2), (3, .int x3)] → lp (fun k q => bX6_manyCounting_4  k q.1 q.2.1 q.2.2.1 q.2.2.2) n (x1, x2, x3, S) = some r → W p l e (headSpec wsX6_manyCounting { frames := 4, cells := 0, slots := 0, locals := 89 }).room s m args below meth c H locs 0 0 (MQ below (QcI D A r (wM cy ad S)) args s 0 0 A) (F0 m 4 ls []) := by
    intro  n
    induction n with
    | zero =>
      intro x1 x2 x3 S H locs ls hP hS hl hf
      cases hf
    | succ n ih4 =>
      intro x1 x2 x3 S H locs ls hP hS hl hf
      have hf : bX6_manyCounting_4  (lp (fun k q => bX6_manyCounting_4  k q.1 q.2.1 q.2.2.1 q.2.2.2) n) x1 x2 x3 S = some r := hf
      generalize lp (fun k q => bX6_manyCounting_4  k q.1 q.2.1 q.2.2.1 q.2.2.2) n = k4 at hf ih4
      unfold bX6_manyCounting_4 at hf
      refine lv_iload_n hx hb dX6_manyCounting_4 rfl (lv_at hl 3 rfl) ?_
      refine lv_aload_n hx hb dX6_manyCounting_5 rfl (lv_at hl 0 rfl) ?_
      refine gfX6_6 hx hb hts (fun _ h => List.mem_cons_of_mem _ (List.mem_append_right _ h)) hown hK hP (hts (Cond.fieldLink RX6 20 "WhoSpeaksModel" "itemsOf" "[I") (List.mem_of_getElem? (i := 1) rfl)) dX6_manyCounting_6 ?_
      refine lv_iload_n hx hb dX6_manyCounting_9 rfl (lv_at hl 1 rfl) ?_
      obtain ⟨c16, hf⟩ := ck_some hf
      refine alM3 hx hb hK hP c16 dX6_manyCounting_10 ?_
      refine lv_icmp_ge (tgt := 37) hx hb dX6_manyCounting_11 (by decide) (fun c17 => ?_) (fun c17 => ?_)
      · have hf := (if_pos c17).symm.trans hf
        refine lv_iload_n hx hb dX6_manyCounting_37 rfl (lv_at hl 2 rfl) ?_
        have he := Option.some.inj hf
        exact rI hx hb hr hP hS he hlocks dX6_manyCounting_38
      · have hf := (if_neg c17).symm.trans hf
        refine lv_iload_n hx hb dX6_manyCounting_14 rfl (lv_at hl 2 rfl) ?_
        refine lv_aload_n hx hb dX6_manyCounting_15 rfl (lv_at hl 0 rfl) ?_
        refine lv_iload_n hx hb dX6_manyCounting_16 rfl (lv_at hl 1 rfl) ?_
        refine lv_iload_n hx hb dX6_manyCounting_17 rfl (lv_at hl 3 rfl) ?_
        obtain ⟨r18, h19, hf⟩ := ob1_some hf
        refine kVi (As := [.int x1, .int x3]) (rest := [.int x2]) ⟨hx, hb, hml, hown, hts⟩ (okX6_counts l D cy ad A hD x1 x3 S r18 h19) (cwV 2 hts gX6_manyCounting_X6_counts rfl rfl rfl (by decide +kernel) ⟨Nat.le_of_ble_eq_true rfl, Nat.le_of_ble_eq_true rfl⟩) hK hP hS (va_recv hK.1 hP (ci := 6) (q := (RX6, TX6, 21)) rfl (atM0 cy ad S)) rfl hl.1 rfl (Nat.le_of_ble_eq_true rfl) dX6_manyCounting_18 (fun H locs hP hS => ?_)
        refine lv_if_eq (tgt := 28) hx hb dX6_manyCounting_21 (by decide) (fun c20 => ?_) (fun c20 => ?_)
        · have hf := (if_pos c20).symm.trans hf
          refine lv_iconst (v := 0) hx hb dX6_manyCounting_28 (by decide) ?_
          refine lv_iadd hx hb dX6_manyCounting_29 ?_
          refine lv_topi (fun y21 ey21 => ?_)
          have hf := bnd_of ey21 hf
          refine lv_istore_n (lv' := [(2, .int y21), (0, .ref (ad 0)), (1, .int x1), (3, .int x3)]) hx hb dX6_manyCounting_30 rfl hl (by decide) rfl (fun ls hl => ?_)
          refine lv_iinc (v := (x3 + 1)) (lv' := [(3, .int (x3 + 1)), (2, .int y21), (0, .ref (ad 0)), (1, .int x1)]) hx hb dX6_manyCounting_31 hl (k := 3) rfl rfl (by decide) rfl (fun ls hl => ?_)
          refine lv_goto (tgt := 4) hx hb dX6_manyCounting_34 (by decide) ?_
          exact ih4 (x1) (y21) ((x3 + 1)) S H locs ls hP hS (lv_sub hl [2, 3, 1, 0] rfl) hf
        · have hf := (if_neg c20).symm.trans hf
          refine lv_iconst (v := 1) hx hb dX6_manyCounting_24 (by decide) ?_
          refine lv_goto (tgt := 29) hx hb dX6_manyCounting_25 (by decide) ?_
          refine lv_iadd hx hb dX6_manyCounting_29 ?_
          refine lv_topi (fun y22 ey22 => ?_)
          have hf := bnd_of ey22 hf
          refine lv_istore_n (lv' := [(2, .int y22), (0, .ref (ad 0)), (1, .int x1), (3, .int x3)]) hx hb dX6_manyCounting_30 rfl hl (by decide) rfl (fun ls hl => ?_)
          refine lv_iinc (v := (x3 + 1)) (lv' := [(3, .int (x3 + 1)), (2, .int y22), (0, .ref (ad 0)), (1, .int x1)]) hx hb dX6_manyCounting_31 hl (k := 3) rfl rfl (by decide) rfl (fun ls hl => ?_)
          refine lv_goto (tgt := 4) hx hb dX6_manyCounting_34 (by decide) ?_
          exact ih4 (x1) (y22) ((x3 + 1)) S H locs ls hP hS (lv_sub hl [2, 3, 1, 0] rfl) hf
  unfold fX6_manyCounting at hf
  suffices hG : ∀ (H : Heap) (locs : List Loc), va_P D vwCl (wM cy ad S) H → va_S A s.heap H locs → W p l e (headSpec wsX6_manyCounting { frames := 4, cells := 0, slots := 0, locals := 89 }).room s m args below meth c H locs 0 0 (MQ below (QcI D A r (wM cy ad S)) args s 0 0 A) (F0 m 0 ls []) by exact hG s.heap [] hP va_S.rf
  clear hP hS
  intro H locs hP hS
  refine lv_iconst (v := 0) hx hb dX6_manyCounting_0 (by decide) ?_
  refine lv_istore_n (lv' := [(2, .int 0), (0, .ref (ad 0)), (1, .int p0)]) hx hb dX6_manyCounting_1 rfl hl (by decide) rfl (fun ls hl => ?_)
  refine lv_iconst (v := 0) hx hb dX6_manyCounting_2 (by decide) ?_
  refine lv_istore_n (lv' := [(3, .int 0), (2, .int 0), (0, .ref (ad 0)), (1, .int p0)]) hx hb dX6_manyCounting_3 rfl hl (by decide) rfl (fun ls hl => ?_)
  exact K4  FU (p0) (0) (0) S H locs ls hP hS (lv_sub hl [2, 3, 1, 0] rfl) hf

def bX6_ofSort_4  (k4 : Int32 × Int32 × Int32 × MS → Option Int32) (x1 : Int32) (x2 : Int32) (x3 : Int32) (S : MS) : Option Int32 := (if 8 ≤ x3 then (some x2) else (ck x3 8 (if (ma S 1 x3.toNatClampNeg) = x1 then (bnd ((x2 ||| ((1 : Int32) <<< (x3 &&& 31)))) (fun y20 => (k4 (x1, y20, (x3 + 1), S)))) else (bnd ((x2 ||| 0)) (fun y19 => (k4 (x1, y19, (x3 + 1), S)))))))
def fX6_ofSort (p0 : Int32) (S : MS) : Option Int32 := (lp (fun k q => bX6_ofSort_4  k q.1 q.2.1 q.2.2.1 q.2.2.2) FU (p0, 0, 0, S))
set_option maxHeartbeats 4000000 in
set_option maxRecDepth 100000 in
theorem okX6_ofSort (l : Launch) (D : va_G) (cy : Nat → ClassId) (ad : Nat → Nat) (A : Nat → Prop) (hD : ∀ S, va_D A (wM cy ad S)) (p0 : Int32) (S : MS) (r : Int32) (hf : fX6_ofSort p0 S = some r) : MI l yX6_ofSort wsX6_ofSort { frames := 0, cells := 0, slots := 0, locals := 0 } D cy A (wM cy ad S) [.ref (ad 0), .int p0] r (wM cy ad S) := by
  refine Met.ofW (cc := cX6_ofSort) (maxL := 4) (ret := (some .int)) (by decide) rfl ?_
  intro p e s m args below meth c s₁ B hml hv
  obtain ⟨ha, hP, hK⟩ := hv
  have hx := B.exec
  have hb := B.bytes
  have hr := B.returns
  have hts := atoms_spec (ws := wsX6_ofSort) B.pre
  have hown : s.vm.findClass RX6 = some m.cls := findClass_of_methodNamed B.named
  have hlocks := B.notSynchronized
  have hS : va_S A s.heap s.heap [] := va_S.rf
  obtain ⟨ls, hl, he0⟩ := ent (m := m) ha (n := 4) (Nat.le_of_ble_eq_true rfl)
  refine W.eq he0 ?_
  have hl : lv_has ls 4 [(0, .ref (ad 0)), (1, .int p0)] := hl
  have K4 : ∀ (n : Nat), ∀ (x1 : Int32) (x2 : Int32) (x3 : Int32) (S : MS) (H : Heap) (locs : List Loc) (ls : Array Slot), va_P D vwCl (wM cy ad S) H → va_S A s.heap H locs → lv_has ls 4 [(0, .ref (ad 0)), (1, .int x1), (2, .int x2), (3, .int x3)] → lp (fun k q => bX6_ofSort_4  k q.1 q.2.1 q.2.2.1 q.2.2.2) n (x1, x2, x3, S) = some r → W p l e (headSpec wsX6_ofSort { frames := 0, cells := 0, slots := 0, locals := 0 }).room s m args below meth c H locs 0 0 (MQ below (QcI D A r (wM cy ad S)) args s 0 0 A) (F0 m 4 ls []) := by
    intro  n
    induction n with
    | zero =>
      intro x1 x2 x3 S H locs ls hP hS hl hf
      cases hf
    | succ n ih4 =>
      intro x1 x2 x3 S H locs ls hP hS hl hf
      have hf : bX6_ofSort_4  (lp (fun k q => bX6_ofSort_4  k q.1 q.2.1 q.2.2.1 q.2.2.2) n) x1 x2 x3 S = some r := hf
      generalize lp (fun k q => bX6_ofSort_4  k q.1 q.2.1 q.2.2.1 q.2.2.2) n = k4 at hf ih4
      unfold bX6_ofSort_4 at hf
      refine lv_iload_n hx hb dX6_ofSort_4 rfl (lv_at hl 3 rfl) ?_
      refine lv_bipush (v := 8) hx hb dX6_ofSort_5 (by decide) ?_
      refine lv_icmp_ge (tgt := 36) hx hb dX6_ofSort_7 (by decide) (fun c16 => ?_) (fun c16 => ?_)
      · have hf := (if_pos c16).symm.trans hf
        refine lv_iload_n hx hb dX6_ofSort_36 rfl (lv_at hl 2 rfl) ?_
        have he := Option.some.inj hf
        exact rI hx hb hr hP hS he hlocks dX6_ofSort_37
      · have hf := (if_neg c16).symm.trans hf
        refine lv_iload_n hx hb dX6_ofSort_10 rfl (lv_at hl 2 rfl) ?_
        refine lv_aload_n hx hb dX6_ofSort_11 rfl (lv_at hl 0 rfl) ?_
        refine gfX6_0 hx hb hts (fun _ h => List.mem_cons_of_mem _ (List.mem_append_right _ h)) hown hK hP (hts (Cond.fieldLink RX6 7 "WhoSpeaksModel" "sortOf" "[I") (List.mem_of_getElem? (i := 1) rfl)) dX6_ofSort_12 ?_
        refine lv_iload_n hx hb dX6_ofSort_15 rfl (lv_at hl 3 rfl) ?_
        obtain ⟨c17, hf⟩ := ck_some hf
        refine alM1 hx hb hK hP c17 dX6_ofSort_16 ?_
        refine lv_iload_n hx hb dX6_ofSort_17 rfl (lv_at hl 1 rfl) ?_
        refine lv_icmp_ne (tgt := 27) hx hb dX6_ofSort_18 (by decide) (fun c18 => ?_) (fun c18 => ?_)
        · have hf := (if_neg c18).symm.trans hf
          refine lv_iconst (v := 0) hx hb dX6_ofSort_27 (by decide) ?_
          refine lv_ior hx hb dX6_ofSort_28 ?_
          refine lv_topi (fun y19 ey19 => ?_)
          have hf := bnd_of ey19 hf
          refine lv_istore_n (lv' := [(2, .int y19), (0, .ref (ad 0)), (1, .int x1), (3, .int x3)]) hx hb dX6_ofSort_29 rfl hl (by decide) rfl (fun ls hl => ?_)
          refine lv_iinc (v := (x3 + 1)) (lv' := [(3, .int (x3 + 1)), (2, .int y19), (0, .ref (ad 0)), (1, .int x1)]) hx hb dX6_ofSort_30 hl (k := 3) rfl rfl (by decide) rfl (fun ls hl => ?_)
          refine lv_goto (tgt := 4) hx hb dX6_ofSort_33 (by decide) ?_
          exact ih4 (x1) (y19) ((x3 + 1)) S H locs ls hP hS (lv_sub hl [2, 3, 1, 0] rfl) hf
        · have hf := (if_pos c18).symm.trans hf
          refine lv_iconst (v := 1) hx hb dX6_ofSort_21 (by decide) ?_
          refine lv_iload_n hx hb dX6_ofSort_22 rfl (lv_at hl 3 rfl) ?_
          refine lv_ishl hx hb dX6_ofSort_23 ?_
          refine lv_goto (tgt := 28) hx hb dX6_ofSort_24 (by decide) ?_
          refine lv_ior hx hb dX6_ofSort_28 ?_
          refine lv_topi (fun y20 ey20 => ?_)
          have hf := bnd_of ey20 hf
          refine lv_istore_n (lv' := [(2, .int y20), (0, .ref (ad 0)), (1, .int x1), (3, .int x3)]) hx hb dX6_ofSort_29 rfl hl (by decide) rfl (fun ls hl => ?_)
          refine lv_iinc (v := (x3 + 1)) (lv' := [(3, .int (x3 + 1)), (2, .int y20), (0, .ref (ad 0)), (1, .int x1)]) hx hb dX6_ofSort_30 hl (k := 3) rfl rfl (by decide) rfl (fun ls hl => ?_)
          refine lv_goto (tgt := 4) hx hb dX6_ofSort_33 (by decide) ?_
          exact ih4 (x1) (y20) ((x3 + 1)) S H locs ls hP hS (lv_sub hl [2, 3, 1, 0] rfl) hf
  unfold fX6_ofSort at hf
  suffices hG : ∀ (H : Heap) (locs : List Loc), va_P D vwCl (wM cy ad S) H → va_S A s.heap H locs → W p l e (headSpec wsX6_ofSort { frames := 0, cells := 0, slots := 0, locals := 0 }).room s m args below meth c H locs 0 0 (MQ below (QcI D A r (wM cy ad S)) args s 0 0 A) (F0 m 0 ls []) by exact hG s.heap [] hP va_S.rf
  clear hP hS
  intro H locs hP hS
  refine lv_iconst (v := 0) hx hb dX6_ofSort_0 (by decide) ?_
  refine lv_istore_n (lv' := [(2, .int 0), (0, .ref (ad 0)), (1, .int p0)]) hx hb dX6_ofSort_1 rfl hl (by decide) rfl (fun ls hl => ?_)
  refine lv_iconst (v := 0) hx hb dX6_ofSort_2 (by decide) ?_
  refine lv_istore_n (lv' := [(3, .int 0), (2, .int 0), (0, .ref (ad 0)), (1, .int p0)]) hx hb dX6_ofSort_3 rfl hl (by decide) rfl (fun ls hl => ?_)
  exact K4  FU (p0) (0) (0) S H locs ls hP hS (lv_sub hl [2, 3, 1, 0] rfl) hf
