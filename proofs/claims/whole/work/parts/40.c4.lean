/-! constructors: the story -/
def PF1 (cy : Nat → ClassId) (pp : Nat → Nat) (i : Nat) : va_W := [(pp (3 * i), .inr (1, [.ref (pp (3 * i + 1)), .ref (pp (3 * i + 2)), .int 0, .int 0, .int 0, .int (-9), .int 0, .int 0, .int 0, .int 0, .int 255, .int 0, .int 0, .int 255])), (pp (3 * i + 1), .inl (cy 0, 12, .inl (fun _ => 0))), (pp (3 * i + 2), .inl (cy 0, 12, .inl (fun _ => 0)))]
def PW (cy : Nat → ClassId) (pp : Nat → Nat) : Nat → va_W
  | 0 => []
  | j + 1 => PW cy pp j ++ PF1 cy pp j
theorem PW_cong (cy : Nat → ClassId) {pp pp' : Nat → Nat} : ∀ j, (∀ k, k < 3 * j → pp k = pp' k) → PW cy pp j = PW cy pp' j := by
  intro j
  induction j with
  | zero => intro _; rfl
  | succ j ih =>
    intro h
    show PW cy pp j ++ PF1 cy pp j = PW cy pp' j ++ PF1 cy pp' j
    unfold PF1
    rw [ih (fun k hk => h k (by omega)), h (3 * j) (by omega), h (3 * j + 1) (by omega), h (3 * j + 2) (by omega)]
def nxt (pp : Nat → Nat) (j a b c : Nat) : Nat → Nat := fun k => if k < 3 * j then pp k else if k = 3 * j then a else if k = 3 * j + 1 then b else c
theorem nxt_o (pp : Nat → Nat) (j a b c : Nat) {k : Nat} (h : k < 3 * j) : nxt pp j a b c k = pp k := by unfold nxt; rw [if_pos h]
theorem nxt_0 (pp : Nat → Nat) (j a b c : Nat) : nxt pp j a b c (3 * j) = a := by unfold nxt; rw [if_neg (by omega), if_pos rfl]
theorem nxt_1 (pp : Nat → Nat) (j a b c : Nat) : nxt pp j a b c (3 * j + 1) = b := by unfold nxt; rw [if_neg (by omega), if_neg (by omega), if_pos rfl]
theorem nxt_2 (pp : Nat → Nat) (j a b c : Nat) : nxt pp j a b c (3 * j + 2) = c := by unfold nxt; rw [if_neg (by omega), if_neg (by omega), if_neg (by omega)]
theorem PW_nxt (cy : Nat → ClassId) (pp : Nat → Nat) (j a b c : Nat) : PW cy (nxt pp j a b c) (j + 1) = PW cy pp j ++ [(a, .inr (1, [.ref b, .ref c, .int 0, .int 0, .int 0, .int (-9), .int 0, .int 0, .int 0, .int 0, .int 255, .int 0, .int 0, .int 255])), (b, .inl (cy 0, 12, .inl (fun _ => 0))), (c, .inl (cy 0, 12, .inl (fun _ => 0)))] := by
  show PW cy (nxt pp j a b c) j ++ PF1 cy (nxt pp j a b c) j = _
  unfold PF1
  rw [nxt_0, nxt_1, nxt_2, PW_cong cy j (fun k hk => nxt_o pp j a b c hk)]
abbrev refs (cy : Nat → ClassId) (f : Nat → Option Nat) : va_E := .inl (cy 3, 16, .inr (.inr (.inr (.inr f))))
abbrev stY (cy : Nat → ClassId) (h0 ar : Nat) (f : Nat → Option Nat) (v : Value) (P : va_W) : va_W := [(h0, .inr (3, [.ref ar, v, .int 0])), (ar, refs cy f)] ++ P
abbrev stW (cy : Nat → ClassId) (X : va_W) (h0 : Nat) (u : Nat × (Nat → Nat)) : va_W := X ++ stY cy h0 u.1 (fun i => some (u.2 (3 * i))) (.ref (u.2 48)) (PW cy u.2 17)
theorem st_set1 (cy : Nat → ClassId) (h0 ar : Nat) (f g : Nat → Option Nat) (v : Value) (P Z : va_W) : (stY cy h0 ar f v P ++ Z).set 1 (ar, refs cy g) = stY cy h0 ar g v (P ++ Z) := rfl
theorem st_set1' (cy : Nat → ClassId) (h0 ar : Nat) (f g : Nat → Option Nat) (v : Value) (P : va_W) : (stY cy h0 ar f v P).set 1 (ar, refs cy g) = stY cy h0 ar g v P := rfl
set_option maxHeartbeats 4000000 in
set_option maxRecDepth 100000 in
theorem nwStory (l : Launch) (D : va_G) (cy : Nat → ClassId) (A : Nat → Prop) (X : va_W) (h0 : Nat) (hD0 : va_D A (X ++ [(h0, .inr (3, [.null, .null, .int 0]))])) : MN l yX3_init wsX3_init { frames := 2, cells := 52, slots := 662, locals := 40 } D cy A (X ++ [(h0, .inr (3, [.null, .null, .int 0]))]) [.ref h0] (stW cy X h0) 52 662 := by
  refine Met.ofW (cc := cX3_init) (maxL := 2) (ret := none) (by decide) rfl ?_
  intro p e s m args below meth c s₁ B hml hv
  obtain ⟨ha, hP, hK, hO, hA⟩ := hv
  have hx := B.exec
  have hb := B.bytes
  have hr := B.returns
  have hts := atoms_spec (ws := wsX3_init) B.pre
  have hown : s.vm.findClass RX3 = some m.cls := findClass_of_methodNamed B.named
  have hlocks := B.notSynchronized
  have hin0 : meth.name = "<init>" := (name_of_methodNamed B.named B.method).1
  have hi30 : ∀ w ∈ wsX30, w ∈ wsX3_init := fun _ h => List.mem_cons_of_mem _ (List.mem_append_left _ (List.mem_append_right _ h))
  have hi10 : ∀ w ∈ wsX10, w ∈ wsX3_init := fun _ h => List.mem_cons_of_mem _ (List.mem_append_right _ h)
  have hS : va_S A s.heap s.heap [] := va_S.rf
  obtain ⟨ls, hl, he0⟩ := ent (m := m) ha (n := 2) (Nat.le_of_ble_eq_true rfl)
  refine W.eq he0 ?_
  have hl : lv_has ls 2 [(0, .ref h0)] := hl
  suffices hG : ∀ (H : Heap) (locs : List Loc), va_P D vwCl (X ++ [(h0, .inr (3, [.null, .null, .int 0]))]) H → va_D A (X ++ [(h0, .inr (3, [.null, .null, .int 0]))]) → va_S A s.heap H locs → W p l e (headSpec wsX3_init { frames := 2, cells := 52, slots := 662, locals := 40 }).room s m args below meth c H locs 0 0 (MQ below (QcN D A (stW cy X h0)) args s 52 662 A) (F0 m 0 ls []) by exact hG s.heap [] hP hD0 va_S.rf
  clear hP hS
  intro H locs hP hD hS
  refine lv_aload_n hx hb dX3_init_0 rfl (lv_at hl 0 rfl) ?_
  refine W.objInit hx hb hown (hts (Cond.methodLink RX3 3 objectInit) (List.mem_of_getElem? (i := 1) rfl)) (hts (Cond.instanceMethod objectInit) (List.mem_of_getElem? (i := 2) rfl)) (hts (Cond.code objectInit ⟨#[0xb1]⟩ 1 none) (List.mem_of_getElem? (i := 3) rfl)) rfl (by rw [hml]; exact hl.1) rfl dX3_init_1 (Nat.le_of_ble_eq_true rfl) (Nat.le_of_ble_eq_true rfl) ?_
  refine W.eq (g2 := F0 m 4 ls []) rfl ?_
  refine lv_aload_n hx hb dX3_init_4 rfl (lv_at hl 0 rfl) ?_
  refine lv_bipush (v := 16) hx hb dX3_init_5 (by decide) ?_
  refine nwQ (N := 16) hx hb hown (hts (Cond.classLink RX3 9 RX1) (List.mem_of_getElem? (i := 4) rfl)) hO hK hP hD hS hA (by decide) (by decide) (by decide) (Nat.le_of_ble_eq_true rfl) (Nat.le_of_ble_eq_true rfl) dX3_init_7 (fun ar H hP hD hS => ?_)
  have hP : va_P D vwCl (X ++ [(h0, .inr (3, [.null, .null, .int 0])), (ar, refs cy (fun _ => none))]) H := hP
  have hD : va_D A (X ++ [(h0, .inr (3, [.null, .null, .int 0])), (ar, refs cy (fun _ => none))]) := hD
  refine ptF 0 (C := RX3) (T := TX3) (N := 3) (v := .ref ar) (ty := .array (.object "WhoSpeaks$Paragraph")) hx hb hts hi30 tyX3 tyX3_ok nmX3 hown hK hP hD hS rfl rfl 0 (by decide) (hts (Cond.fieldLink RX3 11 "WhoSpeaks$Story" "paragraphs" "[LWhoSpeaks$Paragraph;") (List.mem_of_getElem? (i := 5) rfl)) (fun _ h9 => h9) rfl hin0 rfl (by decide +kernel) rfl rfl (Nat.le_of_ble_eq_true rfl) dX3_init_10 (fun H locs hP hD hS => ?_)
  have hP : va_P D vwCl (X ++ stY cy h0 ar (fun _ => none) .null []) H := hP
  have hD : va_D A (X ++ stY cy h0 ar (fun _ => none) .null []) := hD
  -- a paragraph made at the end of the world
  have mk : ∀ (pc1 pc2 pc3 : Nat), decode cX3_init pc1 = .ok (.new 9, 3) → pc2 = pc1 + 3 → decode cX3_init pc2 = .ok (.dup, 1) → pc3 = pc2 + 1 → decode cX3_init pc3 = .ok (.invokespecial 17, 3) → ∀ (w : va_W) (rest : List Value) (cells slots : Nat) (H : Heap) (locs : List Loc) (ls : Array Slot), ls.size = 2 → (rest.map fun v => v.category).sum ≤ 5 → cells + 3 ≤ 52 → slots + 38 ≤ 662 → va_P D vwCl w H → va_D A w → va_S A s.heap H locs →
      (∀ (a b d : Nat) (H1 : Heap) (locs1 : List Loc), va_P D vwCl (w ++ [(a, .inr (1, [.ref b, .ref d, .int 0, .int 0, .int 0, .int (-9), .int 0, .int 0, .int 0, .int 0, .int 255, .int 0, .int 0, .int 255])), (b, .inl (cy 0, 12, .inl (fun _ => 0))), (d, .inl (cy 0, 12, .inl (fun _ => 0)))]) H1 → va_D A (w ++ [(a, .inr (1, [.ref b, .ref d, .int 0, .int 0, .int 0, .int (-9), .int 0, .int 0, .int 0, .int 0, .int 255, .int 0, .int 0, .int 255])), (b, .inl (cy 0, 12, .inl (fun _ => 0))), (d, .inl (cy 0, 12, .inl (fun _ => 0)))]) → va_S A s.heap H1 locs1 → W p l e (headSpec wsX3_init { frames := 2, cells := 52, slots := 662, locals := 40 }).room s m args below meth c H1 locs1 (cells + 3) (slots + 38) (MQ below (QcN D A (stW cy X h0)) args s 52 662 A) (F0 m (pc3 + 3) ls (.ref a :: rest))) →
      W p l e (headSpec wsX3_init { frames := 2, cells := 52, slots := 662, locals := 40 }).room s m args below meth c H locs cells slots (MQ below (QcN D A (stW cy X h0)) args s 52 662 A) (F0 m pc1 ls rest) := by
    intro pc1 pc2 pc3 d1 e2 d2 e3 d3 w rest cells slots H locs ls hsz hcat hc1 hc2 hP hD hS kk
    subst e2
    subst e3
    refine nwO (ci := 1) (fs := [.null, .null, .int 0, .int 0, .int 0, .int 0, .int 0, .int 0, .int 0, .int 0, .int 0, .int 0, .int 0, .int 0]) (C := RX1) (T := TX1) (N := 14) hx hb hts hi10 tyX1 tyX1_ok hown (hts (Cond.classLink RX3 9 RX1) (List.mem_of_getElem? (i := 4) rfl)) (hts (Cond.instantiable RX1 14) (List.mem_of_getElem? (i := 6) rfl)) (hts (Cond.initialized RX1) (List.mem_of_getElem? (i := 7) rfl)) hK hP hD hS hA rfl (by decide +kernel) (by show cells + 1 ≤ 52; omega) (by show slots + 14 ≤ 662; omega) d1 (fun q H hP hD hS => ?_)
    refine lv_dup hx hb d2 rfl ?_
    refine kNw (As := []) (rest := .ref q :: rest) ⟨hx, hb, hml, hown, hts⟩ (nwParagraph l D cy A w q hD) (cwI 0 hts gX3_init_X1_init rfl rfl rfl (hts (Cond.initialized RX1) (List.mem_of_getElem? (i := 7) rfl)) (hts (Cond.methodLink RX3 17 yX1_init) (List.mem_of_getElem? (i := 10) rfl)) (hts (Cond.instanceMethod yX1_init) (List.mem_of_getElem? (i := 11) rfl)) rfl (by decide +kernel) ⟨Nat.le_of_ble_eq_true rfl, Nat.le_of_ble_eq_true rfl⟩) hK hO hP hS hA rfl hsz rfl (by show (Value.ref q).category + (rest.map fun v => v.category).sum ≤ 8; have : (Value.ref q).category = 1 := rfl; omega) d3 ⟨by show cells + 1 + 2 ≤ 52; omega, by show slots + 14 + 24 ≤ 662; omega⟩ (fun u H locs hP hD hS => ?_)
    exact kk q u.1 u.2 H locs hP hD hS
  suffices K15 : ∀ (n j : Nat) (pp : Nat → Nat) (f : Nat → Option Nat) (H : Heap) (locs : List Loc) (ls : Array Slot), j ≤ 16 → 16 < j + n → (∀ i, i < j → f i = some (pp (3 * i))) → va_P D vwCl (X ++ stY cy h0 ar f .null (PW cy pp j)) H → va_D A (X ++ stY cy h0 ar f .null (PW cy pp j)) → va_S A s.heap H locs → lv_has ls 2 [(0, .ref h0), (1, .int (nI j))] → W p l e (headSpec wsX3_init { frames := 2, cells := 52, slots := 662, locals := 40 }).room s m args below meth c H locs (1 + 3 * j) (16 + 38 * j) (MQ below (QcN D A (stW cy X h0)) args s 52 662 A) (F0 m 15 ls []) by
    refine lv_iconst (v := 0) hx hb dX3_init_13 (by decide) ?_
    refine lv_istore_n (lv' := [(1, .int 0), (0, .ref h0)]) hx hb dX3_init_14 rfl hl (by decide) rfl (fun ls hl => ?_)
    exact K15 17 0 (fun _ => 0) (fun _ => none) H locs ls (by omega) (by omega) (fun p hp => absurd hp (Nat.not_lt_zero p)) hP hD hS (lv_sub hl [1, 0] rfl)
  clear hP hD hS
  intro n
  induction n with
  | zero => intro j pp f H locs ls h1 h2; omega
  | succ n ih =>
    intro j pp f H locs ls hj hn hf hP hD hS hl
    refine lv_iload_n hx hb dX3_init_15 rfl (lv_at hl 1 rfl) ?_
    refine lv_aload_n hx hb dX3_init_16 rfl (lv_at hl 0 rfl) ?_
    refine va_get (D := D) (ci := 3) (v := .ref ar) (C := RX3) (T := TX3) (N := 3) hx hb hts hi30 hown hK.1 hP (X.length + 0) ((ap_get X _ 0).trans rfl) rfl 0 (by decide) (hts (Cond.fieldLink RX3 11 "WhoSpeaks$Story" "paragraphs" "[LWhoSpeaks$Paragraph;") (List.mem_of_getElem? (i := 5) rfl)) (fun _ h9 => h9) rfl dX3_init_17 ?_
    refine va_alen (v := 16) hx hb hK.1 hP (X.length + 1) 3 ((ap_get X _ 1).trans rfl) rfl rfl dX3_init_20 ?_
    refine lv_icmp_ge (tgt := 43) hx hb dX3_init_21 (by decide) (fun c1 => ?_) (fun c1 => ?_)
    · have hj16 : j = 16 := by
        rcases Nat.lt_or_ge j 16 with z | z
        · exact absurd c1 (show ¬ (16 : Int32) ≤ nI j from nI_ge (b := 16) z (by omega))
        · omega
      subst hj16
      refine lv_aload_n hx hb dX3_init_43 rfl (lv_at hl 0 rfl) ?_
      refine mk 44 47 48 dX3_init_44 rfl dX3_init_47 rfl dX3_init_48 _ [.ref h0] (1 + 3 * 16) (16 + 38 * 16) H locs ls hl.1 (Nat.le_of_ble_eq_true rfl) (by decide) (by decide) hP hD hS (fun a b d H locs hP hD hS => ?_)
      rw [List.append_assoc] at hP hD
      obtain ⟨qq, hP2, hD2, e48, hf'⟩ : ∃ qq : Nat → Nat, va_P D vwCl (X ++ stY cy h0 ar f .null (PW cy qq 17)) H ∧ va_D A (X ++ stY cy h0 ar f .null (PW cy qq 17)) ∧ qq 48 = a ∧ ∀ i, i < 16 → f i = some (qq (3 * i)) := by
        refine ⟨nxt pp 16 a b d, ?_, ?_, nxt_0 pp 16 a b d, fun i hi => by rw [nxt_o pp 16 a b d (by omega)]; exact hf i hi⟩
        · rw [PW_nxt]; exact hP
        · rw [PW_nxt]; exact hD
      clear hP hD
      rw [← e48]
      have hcell : va_at D vwCl (ar, refs cy (fun i => some (qq (3 * i)))) H := by
        have h1 : H[ar]? = some (vp_cell (cy 3) (16, .inr (.inr (.inr (.inr f))))) := hP2 (X.length + 1) _ ((ap_get X _ 1).trans rfl)
        show H[ar]? = some (vp_cell (cy 3) (16, .inr (.inr (.inr (.inr (fun i => some (qq (3 * i))))))))
        rw [h1, vp_cell_q, vp_cell_q]
        exact congrArg some (arrV_cong (fun i hi => by rw [hf' i hi]))
      have hP := va_P.set hP2 hD2 ((ap_get X _ 1).trans rfl) hcell (fun _ _ => rfl)
      have hD := va_D.set (e := refs cy (fun i => some (qq (3 * i)))) hD2 ((ap_get X _ 1).trans rfl)
      rw [ap_set, st_set1'] at hP hD
      refine ptF 0 (C := RX3) (T := TX3) (N := 3) (v := .ref (qq 48)) (ty := .object "WhoSpeaks$Paragraph") hx hb hts hi30 tyX3 tyX3_ok nmX3 hown hK hP hD hS rfl rfl 1 (by decide) (hts (Cond.fieldLink RX3 18 "WhoSpeaks$Story" "blank" "LWhoSpeaks$Paragraph;") (List.mem_of_getElem? (i := 8) rfl)) (fun _ h9 => h9) rfl hin0 rfl (by decide +kernel) rfl rfl (Nat.le_of_ble_eq_true rfl) dX3_init_51 (fun H locs hP hD hS => ?_)
      have hP : va_P D vwCl (stW cy X h0 (ar, qq)) H := hP
      have hD : va_D A (stW cy X h0 (ar, qq)) := hD
      refine lv_aload_n hx hb dX3_init_54 rfl (lv_at hl 0 rfl) ?_
      refine lv_iconst (v := 0) hx hb dX3_init_55 (by decide) ?_
      refine ptV 0 (C := RX3) (T := TX3) (N := 3) (v := .int 0) (ty := .int) hx hb hts hi30 tyX3 tyX3_ok nmX3 hown hK hP hD hS rfl rfl 2 (by decide) (hts (Cond.fieldLink RX3 22 "WhoSpeaks$Story" "count" "I") (List.mem_of_getElem? (i := 9) rfl)) (fun _ h9 => h9) rfl (by decide +kernel) rfl rfl (Nat.le_of_ble_eq_true rfl) dX3_init_56 (fun H locs hP hD hS => ?_)
      exact rN (w1 := stW cy X h0) (ar, qq) hx hb hr hP hD hS hlocks dX3_init_59
    · have hj16 : j < 16 := by
        rcases Nat.lt_or_ge j 16 with z | z
        · exact z
        · exact absurd (by rw [show j = 16 by omega]; decide) c1
      refine lv_aload_n hx hb dX3_init_24 rfl (lv_at hl 0 rfl) ?_
      refine va_get (D := D) (ci := 3) (v := .ref ar) (C := RX3) (T := TX3) (N := 3) hx hb hts hi30 hown hK.1 hP (X.length + 0) ((ap_get X _ 0).trans rfl) rfl 0 (by decide) (hts (Cond.fieldLink RX3 11 "WhoSpeaks$Story" "paragraphs" "[LWhoSpeaks$Paragraph;") (List.mem_of_getElem? (i := 5) rfl)) (fun _ h9 => h9) rfl dX3_init_25 ?_
      refine lv_iload_n hx hb dX3_init_28 rfl (lv_at hl 1 rfl) ?_
      refine mk 29 32 33 dX3_init_29 rfl dX3_init_32 rfl dX3_init_33 _ [.int (nI j), .ref ar] (1 + 3 * j) (16 + 38 * j) H locs ls hl.1 (Nat.le_of_ble_eq_true rfl) (by omega) (by omega) hP hD hS (fun a b d H locs hP hD hS => ?_)
      refine va_astq (r := (RX1, TX1, 14)) hx hb hK.1 hP hD hS (X.length + 1) 3 ((X ++ stY cy h0 ar f .null (PW cy pp j)).length + 0) 1 (f := f) ((by rw [List.append_assoc]; exact ap_get X _ 1 : (X ++ stY cy h0 ar f .null (PW cy pp j) ++ _)[X.length + 1]? = (stY cy h0 ar f .null (PW cy pp j) ++ _)[1]?).trans rfl) rfl ((ap_get _ _ 0).trans rfl) rfl (inb_nI hj16 (by decide)) dX3_init_36 (fun H locs hP hD hS => ?_)
      rw [List.append_assoc, ap_set, st_set1, ← PW_nxt, cl_nI (by omega)] at hP hD
      refine lv_iinc (v := nI (j + 1)) (lv' := [(1, .int (nI (j + 1))), (0, .ref h0)]) hx hb dX3_init_37 hl (k := 1) rfl (nI_1 j) (by decide) rfl (fun ls hl => ?_)
      refine lv_goto (tgt := 15) hx hb dX3_init_40 (by decide) ?_
      refine ih (j + 1) (nxt pp j a b d) (va_up f j (some a)) H locs ls (by omega) (by omega) (fun i hi => ?_) hP hD hS (lv_sub hl [1, 0] rfl)
      by_cases e : i = j
      · subst e
        rw [nxt_0]
        exact if_pos rfl
      · rw [nxt_o pp j a b d (by omega), ← hf i (by omega)]
        exact if_neg e
