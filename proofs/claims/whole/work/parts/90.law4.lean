/-! the law's loop -/
theorem loop_in {L i : Nat} (hL : L ≤ 1536) (hi : i ≤ L) (h : ¬ nI L - 3 < nI i) : i + 3 ≤ L := by
  by_cases h3 : 3 ≤ L
  · obtain ⟨k, rfl⟩ : ∃ k, L = k + 3 := ⟨L - 3, by omega⟩
    have e : nI (k + 3) - 3 = nI k := by
      rw [← nI_add, show (3 : Int32) = nI 3 from rfl, Int32.add_sub_cancel]
    rw [e] at h
    have : ¬ k < i := fun z => h (nI_lt z (by omega))
    omega
  · exfalso
    apply h
    have h0 : (0 : Int32) ≤ nI i := nI_pos' (by omega)
    have h1 : nI L - 3 < 0 := by
      rcases (show L = 0 ∨ L = 1 ∨ L = 2 by omega) with rfl | rfl | rfl <;> decide
    have a := Int32.le_iff_toInt_le.mp h0
    have b := Int32.lt_iff_toInt_lt.mp h1
    exact Int32.lt_iff_toInt_lt.mpr (by omega)
set_option maxHeartbeats 4000000 in
set_option maxRecDepth 100000 in
theorem law_switch {p : Program} {l : Launch} {e : Env} {s : State} {m : MethodId} {below : List Frame} {meth : Method} {c : Code} {b L : Nat} {xs : Nat → Int32} {D : va_G} {cy : Nat → ClassId} {aX aM : Nat → Nat} {AX AM : Nat → Prop} (C : LC p s m c b L xs D cy aX aM AX AM) {i : Nat} (hi : i + 3 ≤ L) {S : XS} {T : MS} (hR : Rel S T) {H : Heap} {locs : List Loc} {ls : Array Slot} (hPX : va_P D vwCl (wX cy aX S) H) (hPM : va_P D vwCl (wM cy aM T) H) (hS : va_S (fun q : Nat => s.heap.size ≤ q) s.heap H locs) (hl : lv_has ls 4 (lcs b aX aM i)) (kk : ∀ (S1 : XS) (T1 : MS) (H1 : Heap) (locs1 : List Loc), Rel S1 T1 → va_P D vwCl (wX cy aX S1) H1 → va_P D vwCl (wM cy aM T1) H1 → va_S (fun q : Nat => s.heap.size ≤ q) s.heap H1 locs1 → W p l e room_1 s m #[Value.ref b] below meth c H1 locs1 87 1932 (lw_Z below #[Value.ref b] s) (F0 m 647 ls [])) {n : Nat} (hn : n < 32) : W p l e room_1 s m #[Value.ref b] below meth c H locs 87 1932 (lw_Z below #[Value.ref b] s) (F0 m 32 ls [.int (nI n)]) := by
  have hx := C.1
  have hb := C.2.1
  rcases (show n = 0 ∨ n = 1 ∨ n = 2 ∨ n = 3 ∨ n = 4 ∨ n = 5 ∨ n = 6 ∨ n = 7 ∨ n = 8 ∨ n = 9 ∨ n = 10 ∨ n = 11 ∨ n = 12 ∨ n = 13 ∨ n = 14 ∨ n = 15 ∨ n = 16 ∨ n = 17 ∨ n = 18 ∨ n = 19 ∨ n = 20 ∨ 21 ≤ n by omega) with rfl | rfl | rfl | rfl | rfl | rfl | rfl | rfl | rfl | rfl | rfl | rfl | rfl | rfl | rfl | rfl | rfl | rfl | rfl | rfl | rfl | h21
  · exact lv_tableIn (x := nI 0) (off := 100) (tgt := 132) hx hb dL_law_32 (by decide) (by decide) (by decide) (by decide) (law_person C hi hR hPX hPM hS hl kk)
  · exact lv_tableIn (x := nI 1) (off := 133) (tgt := 165) hx hb dL_law_32 (by decide) (by decide) (by decide) (by decide) (law_away C hi hR hPX hPM hS hl kk)
  · exact lv_tableIn (x := nI 2) (off := 156) (tgt := 188) hx hb dL_law_32 (by decide) (by decide) (by decide) (by decide) (law_here C hi hR hPX hPM hS hl kk)
  · exact lv_tableIn (x := nI 3) (off := 179) (tgt := 211) hx hb dL_law_32 (by decide) (by decide) (by decide) (by decide) (law_rules C hi hR hPX hPM hS hl kk)
  · exact lv_tableIn (x := nI 4) (off := 202) (tgt := 234) hx hb dL_law_32 (by decide) (by decide) (by decide) (by decide) (law_key C hi hR hPX hPM hS hl kk)
  · exact lv_tableIn (x := nI 5) (off := 225) (tgt := 257) hx hb dL_law_32 (by decide) (by decide) (by decide) (by decide) (law_wipe C hi hR hPX hPM hS hl kk)
  · exact lv_tableIn (x := nI 6) (off := 238) (tgt := 270) hx hb dL_law_32 (by decide) (by decide) (by decide) (by decide) (law_paragraph C hi hR hPX hPM hS hl kk)
  · exact lv_tableIn (x := nI 7) (off := 251) (tgt := 283) hx hb dL_law_32 (by decide) (by decide) (by decide) (by decide) (law_cut C hi hR hPX hPM hS hl kk)
  · exact lv_tableIn (x := nI 8) (off := 264) (tgt := 296) hx hb dL_law_32 (by decide) (by decide) (by decide) (by decide) (law_ofParagraph C hi hR hPX hPM hS hl kk)
  · exact lv_tableIn (x := nI 9) (off := 297) (tgt := 329) hx hb dL_law_32 (by decide) (by decide) (by decide) (by decide) (law_set C hi hR hPX hPM hS hl kk)
  · exact lv_tableIn (x := nI 10) (off := 330) (tgt := 362) hx hb dL_law_32 (by decide) (by decide) (by decide) (by decide) (law_hint C hi hR hPX hPM hS hl kk)
  · exact lv_tableIn (x := nI 11) (off := 363) (tgt := 395) hx hb dL_law_32 (by decide) (by decide) (by decide) (by decide) (law_link C hi hR hPX hPM hS hl kk)
  · exact lv_tableIn (x := nI 12) (off := 386) (tgt := 418) hx hb dL_law_32 (by decide) (by decide) (by decide) (by decide) (law_ways C hi hR hPX hPM hS hl kk)
  · exact lv_tableIn (x := nI 13) (off := 400) (tgt := 432) hx hb dL_law_32 (by decide) (by decide) (by decide) (by decide) (law_would C hi hR hPX hPM hS hl kk)
  · exact lv_tableIn (x := nI 14) (off := 434) (tgt := 466) hx hb dL_law_32 (by decide) (by decide) (by decide) (by decide) (law_conflict C hi hR hPX hPM hS hl kk)
  · exact lv_tableIn (x := nI 15) (off := 457) (tgt := 489) hx hb dL_law_32 (by decide) (by decide) (by decide) (by decide) (law_asked C hi hR hPX hPM hS hl kk)
  · exact lv_tableIn (x := nI 16) (off := 470) (tgt := 502) hx hb dL_law_32 (by decide) (by decide) (by decide) (by decide) (law_run C hi hR hPX hPM hS hl kk)
  · exact lv_tableIn (x := nI 17) (off := 503) (tgt := 535) hx hb dL_law_32 (by decide) (by decide) (by decide) (by decide) (law_ofPerson C hi hR hPX hPM hS hl kk)
  · exact lv_tableIn (x := nI 18) (off := 536) (tgt := 568) hx hb dL_law_32 (by decide) (by decide) (by decide) (by decide) (law_rank C hi hR hPX hPM hS hl kk)
  · exact lv_tableIn (x := nI 19) (off := 559) (tgt := 591) hx hb dL_law_32 (by decide) (by decide) (by decide) (by decide) (law_written C hi hR hPX hPM hS hl kk)
  · exact lv_tableIn (x := nI 20) (off := 592) (tgt := 624) hx hb dL_law_32 (by decide) (by decide) (by decide) (by decide) (law_many C hi hR hPX hPM hS hl kk)
  · refine lv_tableOut (x := nI n) (tgt := 647) hx hb dL_law_32 (Or.inr ?_) (by decide) (kk S T H locs hR hPX hPM hS)
    rw [nI_toInt (by omega)]
    omega
set_option maxHeartbeats 4000000 in
set_option maxRecDepth 100000 in
theorem law_loop {p : Program} {l : Launch} {e : Env} {s : State} {m : MethodId} {below : List Frame} {meth : Method} {c : Code} {b L : Nat} {xs : Nat → Int32} {D : va_G} {cy : Nat → ClassId} {aX aM : Nat → Nat} {AX AM : Nat → Prop} (C : LC p s m c b L xs D cy aX aM AX AM) (hr : meth.sig.returnType = ret) (hlocks : meth.locks = false) : ∀ (n i : Nat) (S : XS) (T : MS) (H : Heap) (locs : List Loc) (ls : Array Slot), i ≤ L → L < i + n → Rel S T → va_P D vwCl (wX cy aX S) H → va_P D vwCl (wM cy aM T) H → va_S (fun q : Nat => s.heap.size ≤ q) s.heap H locs → lv_has ls 4 (lcs b aX aM i) → W p l e room_1 s m #[Value.ref b] below meth c H locs 87 1932 (lw_Z below #[Value.ref b] s) (F0 m 18 ls []) := by
  obtain ⟨hx, hb, hml, hown, hts, hX, hbl, hK, hDX, hDM, hAX, hAM, hsep, hL⟩ := id C
  have hbA : ¬ (fun q : Nat => s.heap.size ≤ q) b := Nat.not_le.mpr hbl
  intro n
  induction n with
  | zero => intro i S T H locs ls h1 h2; omega
  | succ n ih =>
    intro i S T H locs ls hi hn hR hPX hPM hS hl
    refine lv_iload_n hx hb dL_law_18 rfl (lv_at hl 3 rfl) ?_
    refine lv_aload_n hx hb dL_law_19 rfl (lv_at hl 0 rfl) ?_
    refine va_slen hx hb hX hbl hbA hS dL_law_20 ?_
    refine lv_iconst (v := 3) hx hb dL_law_21 (by decide) ?_
    refine lv_isub hx hb dL_law_22 ?_
    refine lv_icmp_gt (tgt := 653) hx hb dL_law_23 (by decide) (fun _ => ?_) (fun c1 => ?_)
    · refine lv_iconst (v := 1) hx hb dL_law_653 (by decide) ?_
      refine va_forget (fun q hq => hS.2.2 q hq) ?_
      refine W.widen (k := 600000) (n := 7302250) (Nat.le_of_ble_eq_true rfl) (Nat.le_of_ble_eq_true rfl) ?_
      exact lw_ret hx hb hr hlocks dL_law_654
    · have hi3 : i + 3 ≤ L := loop_in hL hi c1
      have h0 : vp_in (nI i) L := vp_in_nI (by omega) (by omega)
      refine lv_aload_n hx hb dL_law_26 rfl (lv_at hl 0 rfl) ?_
      refine lv_iload_n hx hb dL_law_27 rfl (lv_at hl 3 rfl) ?_
      refine va_sld hx hb hX hbl hbA hS h0 dL_law_28 ?_
      refine lv_bipush (v := 31) hx hb dL_law_29 (by decide) ?_
      refine lv_iand hx hb dL_law_31 ?_
      obtain ⟨k, hk, ek⟩ := and31 (xs (nI i).toNatClampNeg)
      rw [ek]
      refine law_switch C hi3 hR hPX hPM hS hl (fun S1 T1 H1 locs1 hR1 hX1 hM1 hS1 => ?_) hk
      refine lv_iinc (v := nI (i + 3)) (lv' := [(3, .int (nI (i + 3))), (0, .ref b), (1, .ref (aX 0)), (2, .ref (aM 0))]) hx hb dL_law_647 hl (k := 3) rfl (show nI i + 3 = nI (i + 3) from by rw [show (3 : Int32) = nI 3 from rfl, nI_add]) (by decide) rfl (fun ls hl => ?_)
      refine lv_goto (tgt := 18) hx hb dL_law_650 (by decide) ?_
      exact ih (i + 3) S1 T1 H1 locs1 ls hi3 (by omega) hR1 hX1 hM1 hS1 (lv_sub hl [1, 2, 3, 0] rfl)
