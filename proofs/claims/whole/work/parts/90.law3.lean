/-! the law: its 21 calls -/
set_option maxHeartbeats 4000000 in
set_option maxRecDepth 100000 in
theorem law_person {p : Program} {l : Launch} {e : Env} {s : State} {m : MethodId} {below : List Frame} {meth : Method} {c : Code} {b L : Nat} {xs : Nat → Int32} {D : va_G} {cy : Nat → ClassId} {aX aM : Nat → Nat} {AX AM : Nat → Prop} (C : LC p s m c b L xs D cy aX aM AX AM) {i : Nat} (hi : i + 3 ≤ L) {S : XS} {T : MS} (hR : Rel S T) {H : Heap} {locs : List Loc} {ls : Array Slot} (hPX : va_P D vwCl (wX cy aX S) H) (hPM : va_P D vwCl (wM cy aM T) H) (hS : va_S (fun q : Nat => s.heap.size ≤ q) s.heap H locs) (hl : lv_has ls 4 (lcs b aX aM i)) (kk : ∀ (S1 : XS) (T1 : MS) (H1 : Heap) (locs1 : List Loc), Rel S1 T1 → va_P D vwCl (wX cy aX S1) H1 → va_P D vwCl (wM cy aM T1) H1 → va_S (fun q : Nat => s.heap.size ≤ q) s.heap H1 locs1 → W p l e room_1 s m #[Value.ref b] below meth c H1 locs1 87 1932 (lw_Z below #[Value.ref b] s) (F0 m 647 ls [])) : W p l e room_1 s m #[Value.ref b] below meth c H locs 87 1932 (lw_Z below #[Value.ref b] s) (F0 m 132 ls []) := by
  obtain ⟨hx, hb, hml, hown, hts, hX, hbl, hK, hDX, hDM, hAX, hAM, hsep, hL⟩ := C
  have hbA : ¬ (fun q : Nat => s.heap.size ≤ q) b := Nat.not_le.mpr hbl
  have h1 : vp_in (nI i + 1) L := by rw [nI_1]; exact vp_in_nI (by omega) (by omega)
  have h2 : vp_in (nI i + 2) L := by rw [show (2 : Int32) = nI 2 from rfl, nI_add]; exact vp_in_nI (by omega) (by omega)
  have sX : ∀ (k : Nat) (q : Nat × va_E), (wM cy aM T)[k]? = some q → ¬ AX q.1 := fun k q hq z => hsep q.1 z ((hDM T).2 k q hq)
  obtain ⟨r, S1, T1, e1, e2, hR1⟩ := sim_person hR (xs (nI i + 1).toNatClampNeg) (xs (nI i + 2).toNatClampNeg)
  have sM : ∀ (k : Nat) (q : Nat × va_E), (wX cy aX S1)[k]? = some q → ¬ AM q.1 := fun k q hq z => hsep q.1 ((hDX S1).2 k q hq) z
  refine lv_aload_n hx hb dL_law_132 rfl (lv_at hl 1 rfl) ?_
  refine lv_aload_n hx hb dL_law_133 rfl (lv_at hl 0 rfl) ?_
  refine lv_iload_n hx hb dL_law_134 rfl (lv_at hl 3 rfl) ?_
  refine lv_iconst (v := 1) hx hb dL_law_135 (by decide) ?_
  refine lv_iadd hx hb dL_law_136 ?_
  refine va_sld hx hb hX hbl hbA hS h1 dL_law_137 ?_
  refine lv_aload_n hx hb dL_law_138 rfl (lv_at hl 0 rfl) ?_
  refine lv_iload_n hx hb dL_law_139 rfl (lv_at hl 3 rfl) ?_
  refine lv_iconst (v := 2) hx hb dL_law_140 (by decide) ?_
  refine lv_iadd hx hb dL_law_141 ?_
  refine va_sld hx hb hX hbl hbA hS h2 dL_law_142 ?_
  refine kLi (As := [.int (xs (nI i + 1).toNatClampNeg), .int (xs (nI i + 2).toNatClampNeg)]) (rest := []) ⟨hx, hb, hml, hown, hts⟩ (okX5_person l D cy aX AX hDX (xs (nI i + 1).toNatClampNeg) (xs (nI i + 2).toNatClampNeg) S r S1 e1) (cwV 2 hts gL_law_X5_person rfl rfl rfl (by decide +kernel) ⟨Nat.le_of_ble_eq_true rfl, Nat.le_of_ble_eq_true rfl⟩) hK hPX hPM sX hAX hS (va_recv hK.1 hPX (ci := 5) (q := (RX5, TX5, 9)) rfl (atX0 cy aX S)) rfl hl.1 rfl (Nat.le_of_ble_eq_true rfl) dL_law_143 ⟨Nat.le_of_ble_eq_true rfl, Nat.le_of_ble_eq_true rfl⟩ (fun H locs hPX hPM hS => ?_)
  refine lv_aload_n hx hb dL_law_146 rfl (lv_at hl 2 rfl) ?_
  refine lv_aload_n hx hb dL_law_147 rfl (lv_at hl 0 rfl) ?_
  refine lv_iload_n hx hb dL_law_148 rfl (lv_at hl 3 rfl) ?_
  refine lv_iconst (v := 1) hx hb dL_law_149 (by decide) ?_
  refine lv_iadd hx hb dL_law_150 ?_
  refine va_sld hx hb hX hbl hbA hS h1 dL_law_151 ?_
  refine lv_aload_n hx hb dL_law_152 rfl (lv_at hl 0 rfl) ?_
  refine lv_iload_n hx hb dL_law_153 rfl (lv_at hl 3 rfl) ?_
  refine lv_iconst (v := 2) hx hb dL_law_154 (by decide) ?_
  refine lv_iadd hx hb dL_law_155 ?_
  refine va_sld hx hb hX hbl hbA hS h2 dL_law_156 ?_
  refine kLi (As := [.int (xs (nI i + 1).toNatClampNeg), .int (xs (nI i + 2).toNatClampNeg)]) (rest := [.int r]) ⟨hx, hb, hml, hown, hts⟩ (okX6_person l D cy aM AM hDM (xs (nI i + 1).toNatClampNeg) (xs (nI i + 2).toNatClampNeg) T r T1 e2) (cwV 2 hts gL_law_X6_person rfl rfl rfl (by decide +kernel) ⟨Nat.le_of_ble_eq_true rfl, Nat.le_of_ble_eq_true rfl⟩) hK hPM hPX sM hAM hS (va_recv hK.1 hPM (ci := 6) (q := (RX6, TX6, 21)) rfl (atM0 cy aM T)) rfl hl.1 rfl (Nat.le_of_ble_eq_true rfl) dL_law_157 ⟨Nat.le_of_ble_eq_true rfl, Nat.le_of_ble_eq_true rfl⟩ (fun H locs hPM hPX hS => ?_)
  exact lv_icmp_eq (tgt := 647) hx hb dL_law_160 (by decide) (fun _ => kk S1 T1 H locs hR1 hPX hPM hS) (fun z => absurd rfl z)
set_option maxHeartbeats 4000000 in
set_option maxRecDepth 100000 in
theorem law_away {p : Program} {l : Launch} {e : Env} {s : State} {m : MethodId} {below : List Frame} {meth : Method} {c : Code} {b L : Nat} {xs : Nat → Int32} {D : va_G} {cy : Nat → ClassId} {aX aM : Nat → Nat} {AX AM : Nat → Prop} (C : LC p s m c b L xs D cy aX aM AX AM) {i : Nat} (hi : i + 3 ≤ L) {S : XS} {T : MS} (hR : Rel S T) {H : Heap} {locs : List Loc} {ls : Array Slot} (hPX : va_P D vwCl (wX cy aX S) H) (hPM : va_P D vwCl (wM cy aM T) H) (hS : va_S (fun q : Nat => s.heap.size ≤ q) s.heap H locs) (hl : lv_has ls 4 (lcs b aX aM i)) (kk : ∀ (S1 : XS) (T1 : MS) (H1 : Heap) (locs1 : List Loc), Rel S1 T1 → va_P D vwCl (wX cy aX S1) H1 → va_P D vwCl (wM cy aM T1) H1 → va_S (fun q : Nat => s.heap.size ≤ q) s.heap H1 locs1 → W p l e room_1 s m #[Value.ref b] below meth c H1 locs1 87 1932 (lw_Z below #[Value.ref b] s) (F0 m 647 ls [])) : W p l e room_1 s m #[Value.ref b] below meth c H locs 87 1932 (lw_Z below #[Value.ref b] s) (F0 m 165 ls []) := by
  obtain ⟨hx, hb, hml, hown, hts, hX, hbl, hK, hDX, hDM, hAX, hAM, hsep, hL⟩ := C
  have hbA : ¬ (fun q : Nat => s.heap.size ≤ q) b := Nat.not_le.mpr hbl
  have h1 : vp_in (nI i + 1) L := by rw [nI_1]; exact vp_in_nI (by omega) (by omega)
  have h2 : vp_in (nI i + 2) L := by rw [show (2 : Int32) = nI 2 from rfl, nI_add]; exact vp_in_nI (by omega) (by omega)
  have sX : ∀ (k : Nat) (q : Nat × va_E), (wM cy aM T)[k]? = some q → ¬ AX q.1 := fun k q hq z => hsep q.1 z ((hDM T).2 k q hq)
  obtain ⟨r, S1, T1, e1, e2, hR1⟩ := sim_away hR (xs (nI i + 1).toNatClampNeg)
  have sM : ∀ (k : Nat) (q : Nat × va_E), (wX cy aX S1)[k]? = some q → ¬ AM q.1 := fun k q hq z => hsep q.1 ((hDX S1).2 k q hq) z
  refine lv_aload_n hx hb dL_law_165 rfl (lv_at hl 1 rfl) ?_
  refine lv_aload_n hx hb dL_law_166 rfl (lv_at hl 0 rfl) ?_
  refine lv_iload_n hx hb dL_law_167 rfl (lv_at hl 3 rfl) ?_
  refine lv_iconst (v := 1) hx hb dL_law_168 (by decide) ?_
  refine lv_iadd hx hb dL_law_169 ?_
  refine va_sld hx hb hX hbl hbA hS h1 dL_law_170 ?_
  refine kLi (As := [.int (xs (nI i + 1).toNatClampNeg)]) (rest := []) ⟨hx, hb, hml, hown, hts⟩ (okX5_away l D cy aX AX hDX (xs (nI i + 1).toNatClampNeg) S r S1 e1) (cwV 1 hts gL_law_X5_away rfl rfl rfl (by decide +kernel) ⟨Nat.le_of_ble_eq_true rfl, Nat.le_of_ble_eq_true rfl⟩) hK hPX hPM sX hAX hS (va_recv hK.1 hPX (ci := 5) (q := (RX5, TX5, 9)) rfl (atX0 cy aX S)) rfl hl.1 rfl (Nat.le_of_ble_eq_true rfl) dL_law_171 ⟨Nat.le_of_ble_eq_true rfl, Nat.le_of_ble_eq_true rfl⟩ (fun H locs hPX hPM hS => ?_)
  refine lv_aload_n hx hb dL_law_174 rfl (lv_at hl 2 rfl) ?_
  refine lv_aload_n hx hb dL_law_175 rfl (lv_at hl 0 rfl) ?_
  refine lv_iload_n hx hb dL_law_176 rfl (lv_at hl 3 rfl) ?_
  refine lv_iconst (v := 1) hx hb dL_law_177 (by decide) ?_
  refine lv_iadd hx hb dL_law_178 ?_
  refine va_sld hx hb hX hbl hbA hS h1 dL_law_179 ?_
  refine kLi (As := [.int (xs (nI i + 1).toNatClampNeg)]) (rest := [.int r]) ⟨hx, hb, hml, hown, hts⟩ (okX6_away l D cy aM AM hDM (xs (nI i + 1).toNatClampNeg) T r T1 e2) (cwV 1 hts gL_law_X6_away rfl rfl rfl (by decide +kernel) ⟨Nat.le_of_ble_eq_true rfl, Nat.le_of_ble_eq_true rfl⟩) hK hPM hPX sM hAM hS (va_recv hK.1 hPM (ci := 6) (q := (RX6, TX6, 21)) rfl (atM0 cy aM T)) rfl hl.1 rfl (Nat.le_of_ble_eq_true rfl) dL_law_180 ⟨Nat.le_of_ble_eq_true rfl, Nat.le_of_ble_eq_true rfl⟩ (fun H locs hPM hPX hS => ?_)
  exact lv_icmp_eq (tgt := 647) hx hb dL_law_183 (by decide) (fun _ => kk S1 T1 H locs hR1 hPX hPM hS) (fun z => absurd rfl z)
set_option maxHeartbeats 4000000 in
set_option maxRecDepth 100000 in
theorem law_here {p : Program} {l : Launch} {e : Env} {s : State} {m : MethodId} {below : List Frame} {meth : Method} {c : Code} {b L : Nat} {xs : Nat → Int32} {D : va_G} {cy : Nat → ClassId} {aX aM : Nat → Nat} {AX AM : Nat → Prop} (C : LC p s m c b L xs D cy aX aM AX AM) {i : Nat} (hi : i + 3 ≤ L) {S : XS} {T : MS} (hR : Rel S T) {H : Heap} {locs : List Loc} {ls : Array Slot} (hPX : va_P D vwCl (wX cy aX S) H) (hPM : va_P D vwCl (wM cy aM T) H) (hS : va_S (fun q : Nat => s.heap.size ≤ q) s.heap H locs) (hl : lv_has ls 4 (lcs b aX aM i)) (kk : ∀ (S1 : XS) (T1 : MS) (H1 : Heap) (locs1 : List Loc), Rel S1 T1 → va_P D vwCl (wX cy aX S1) H1 → va_P D vwCl (wM cy aM T1) H1 → va_S (fun q : Nat => s.heap.size ≤ q) s.heap H1 locs1 → W p l e room_1 s m #[Value.ref b] below meth c H1 locs1 87 1932 (lw_Z below #[Value.ref b] s) (F0 m 647 ls [])) : W p l e room_1 s m #[Value.ref b] below meth c H locs 87 1932 (lw_Z below #[Value.ref b] s) (F0 m 188 ls []) := by
  obtain ⟨hx, hb, hml, hown, hts, hX, hbl, hK, hDX, hDM, hAX, hAM, hsep, hL⟩ := C
  have hbA : ¬ (fun q : Nat => s.heap.size ≤ q) b := Nat.not_le.mpr hbl
  have h1 : vp_in (nI i + 1) L := by rw [nI_1]; exact vp_in_nI (by omega) (by omega)
  have h2 : vp_in (nI i + 2) L := by rw [show (2 : Int32) = nI 2 from rfl, nI_add]; exact vp_in_nI (by omega) (by omega)
  have sX : ∀ (k : Nat) (q : Nat × va_E), (wM cy aM T)[k]? = some q → ¬ AX q.1 := fun k q hq z => hsep q.1 z ((hDM T).2 k q hq)
  obtain ⟨r, S1, T1, e1, e2, hR1⟩ := sim_here hR (xs (nI i + 1).toNatClampNeg)
  have sM : ∀ (k : Nat) (q : Nat × va_E), (wX cy aX S1)[k]? = some q → ¬ AM q.1 := fun k q hq z => hsep q.1 ((hDX S1).2 k q hq) z
  refine lv_aload_n hx hb dL_law_188 rfl (lv_at hl 1 rfl) ?_
  refine lv_aload_n hx hb dL_law_189 rfl (lv_at hl 0 rfl) ?_
  refine lv_iload_n hx hb dL_law_190 rfl (lv_at hl 3 rfl) ?_
  refine lv_iconst (v := 1) hx hb dL_law_191 (by decide) ?_
  refine lv_iadd hx hb dL_law_192 ?_
  refine va_sld hx hb hX hbl hbA hS h1 dL_law_193 ?_
  refine kLi (As := [.int (xs (nI i + 1).toNatClampNeg)]) (rest := []) ⟨hx, hb, hml, hown, hts⟩ (okX5_here l D cy aX AX hDX (xs (nI i + 1).toNatClampNeg) S r S1 e1) (cwV 1 hts gL_law_X5_here rfl rfl rfl (by decide +kernel) ⟨Nat.le_of_ble_eq_true rfl, Nat.le_of_ble_eq_true rfl⟩) hK hPX hPM sX hAX hS (va_recv hK.1 hPX (ci := 5) (q := (RX5, TX5, 9)) rfl (atX0 cy aX S)) rfl hl.1 rfl (Nat.le_of_ble_eq_true rfl) dL_law_194 ⟨Nat.le_of_ble_eq_true rfl, Nat.le_of_ble_eq_true rfl⟩ (fun H locs hPX hPM hS => ?_)
  refine lv_aload_n hx hb dL_law_197 rfl (lv_at hl 2 rfl) ?_
  refine lv_aload_n hx hb dL_law_198 rfl (lv_at hl 0 rfl) ?_
  refine lv_iload_n hx hb dL_law_199 rfl (lv_at hl 3 rfl) ?_
  refine lv_iconst (v := 1) hx hb dL_law_200 (by decide) ?_
  refine lv_iadd hx hb dL_law_201 ?_
  refine va_sld hx hb hX hbl hbA hS h1 dL_law_202 ?_
  refine kLi (As := [.int (xs (nI i + 1).toNatClampNeg)]) (rest := [.int r]) ⟨hx, hb, hml, hown, hts⟩ (okX6_here l D cy aM AM hDM (xs (nI i + 1).toNatClampNeg) T r T1 e2) (cwV 1 hts gL_law_X6_here rfl rfl rfl (by decide +kernel) ⟨Nat.le_of_ble_eq_true rfl, Nat.le_of_ble_eq_true rfl⟩) hK hPM hPX sM hAM hS (va_recv hK.1 hPM (ci := 6) (q := (RX6, TX6, 21)) rfl (atM0 cy aM T)) rfl hl.1 rfl (Nat.le_of_ble_eq_true rfl) dL_law_203 ⟨Nat.le_of_ble_eq_true rfl, Nat.le_of_ble_eq_true rfl⟩ (fun H locs hPM hPX hS => ?_)
  exact lv_icmp_eq (tgt := 647) hx hb dL_law_206 (by decide) (fun _ => kk S1 T1 H locs hR1 hPX hPM hS) (fun z => absurd rfl z)
set_option maxHeartbeats 4000000 in
set_option maxRecDepth 100000 in
theorem law_rules {p : Program} {l : Launch} {e : Env} {s : State} {m : MethodId} {below : List Frame} {meth : Method} {c : Code} {b L : Nat} {xs : Nat → Int32} {D : va_G} {cy : Nat → ClassId} {aX aM : Nat → Nat} {AX AM : Nat → Prop} (C : LC p s m c b L xs D cy aX aM AX AM) {i : Nat} (hi : i + 3 ≤ L) {S : XS} {T : MS} (hR : Rel S T) {H : Heap} {locs : List Loc} {ls : Array Slot} (hPX : va_P D vwCl (wX cy aX S) H) (hPM : va_P D vwCl (wM cy aM T) H) (hS : va_S (fun q : Nat => s.heap.size ≤ q) s.heap H locs) (hl : lv_has ls 4 (lcs b aX aM i)) (kk : ∀ (S1 : XS) (T1 : MS) (H1 : Heap) (locs1 : List Loc), Rel S1 T1 → va_P D vwCl (wX cy aX S1) H1 → va_P D vwCl (wM cy aM T1) H1 → va_S (fun q : Nat => s.heap.size ≤ q) s.heap H1 locs1 → W p l e room_1 s m #[Value.ref b] below meth c H1 locs1 87 1932 (lw_Z below #[Value.ref b] s) (F0 m 647 ls [])) : W p l e room_1 s m #[Value.ref b] below meth c H locs 87 1932 (lw_Z below #[Value.ref b] s) (F0 m 211 ls []) := by
  obtain ⟨hx, hb, hml, hown, hts, hX, hbl, hK, hDX, hDM, hAX, hAM, hsep, hL⟩ := C
  have hbA : ¬ (fun q : Nat => s.heap.size ≤ q) b := Nat.not_le.mpr hbl
  have h1 : vp_in (nI i + 1) L := by rw [nI_1]; exact vp_in_nI (by omega) (by omega)
  have h2 : vp_in (nI i + 2) L := by rw [show (2 : Int32) = nI 2 from rfl, nI_add]; exact vp_in_nI (by omega) (by omega)
  have sX : ∀ (k : Nat) (q : Nat × va_E), (wM cy aM T)[k]? = some q → ¬ AX q.1 := fun k q hq z => hsep q.1 z ((hDM T).2 k q hq)
  obtain ⟨r, S1, T1, e1, e2, hR1⟩ := sim_rules hR (xs (nI i + 1).toNatClampNeg)
  have sM : ∀ (k : Nat) (q : Nat × va_E), (wX cy aX S1)[k]? = some q → ¬ AM q.1 := fun k q hq z => hsep q.1 ((hDX S1).2 k q hq) z
  refine lv_aload_n hx hb dL_law_211 rfl (lv_at hl 1 rfl) ?_
  refine lv_aload_n hx hb dL_law_212 rfl (lv_at hl 0 rfl) ?_
  refine lv_iload_n hx hb dL_law_213 rfl (lv_at hl 3 rfl) ?_
  refine lv_iconst (v := 1) hx hb dL_law_214 (by decide) ?_
  refine lv_iadd hx hb dL_law_215 ?_
  refine va_sld hx hb hX hbl hbA hS h1 dL_law_216 ?_
  refine kLi (As := [.int (xs (nI i + 1).toNatClampNeg)]) (rest := []) ⟨hx, hb, hml, hown, hts⟩ (okX5_rules l D cy aX AX hDX (xs (nI i + 1).toNatClampNeg) S r S1 e1) (cwV 1 hts gL_law_X5_rules rfl rfl rfl (by decide +kernel) ⟨Nat.le_of_ble_eq_true rfl, Nat.le_of_ble_eq_true rfl⟩) hK hPX hPM sX hAX hS (va_recv hK.1 hPX (ci := 5) (q := (RX5, TX5, 9)) rfl (atX0 cy aX S)) rfl hl.1 rfl (Nat.le_of_ble_eq_true rfl) dL_law_217 ⟨Nat.le_of_ble_eq_true rfl, Nat.le_of_ble_eq_true rfl⟩ (fun H locs hPX hPM hS => ?_)
  refine lv_aload_n hx hb dL_law_220 rfl (lv_at hl 2 rfl) ?_
  refine lv_aload_n hx hb dL_law_221 rfl (lv_at hl 0 rfl) ?_
  refine lv_iload_n hx hb dL_law_222 rfl (lv_at hl 3 rfl) ?_
  refine lv_iconst (v := 1) hx hb dL_law_223 (by decide) ?_
  refine lv_iadd hx hb dL_law_224 ?_
  refine va_sld hx hb hX hbl hbA hS h1 dL_law_225 ?_
  refine kLi (As := [.int (xs (nI i + 1).toNatClampNeg)]) (rest := [.int r]) ⟨hx, hb, hml, hown, hts⟩ (okX6_rules l D cy aM AM hDM (xs (nI i + 1).toNatClampNeg) T r T1 e2) (cwV 1 hts gL_law_X6_rules rfl rfl rfl (by decide +kernel) ⟨Nat.le_of_ble_eq_true rfl, Nat.le_of_ble_eq_true rfl⟩) hK hPM hPX sM hAM hS (va_recv hK.1 hPM (ci := 6) (q := (RX6, TX6, 21)) rfl (atM0 cy aM T)) rfl hl.1 rfl (Nat.le_of_ble_eq_true rfl) dL_law_226 ⟨Nat.le_of_ble_eq_true rfl, Nat.le_of_ble_eq_true rfl⟩ (fun H locs hPM hPX hS => ?_)
  exact lv_icmp_eq (tgt := 647) hx hb dL_law_229 (by decide) (fun _ => kk S1 T1 H locs hR1 hPX hPM hS) (fun z => absurd rfl z)
set_option maxHeartbeats 4000000 in
set_option maxRecDepth 100000 in
theorem law_key {p : Program} {l : Launch} {e : Env} {s : State} {m : MethodId} {below : List Frame} {meth : Method} {c : Code} {b L : Nat} {xs : Nat → Int32} {D : va_G} {cy : Nat → ClassId} {aX aM : Nat → Nat} {AX AM : Nat → Prop} (C : LC p s m c b L xs D cy aX aM AX AM) {i : Nat} (hi : i + 3 ≤ L) {S : XS} {T : MS} (hR : Rel S T) {H : Heap} {locs : List Loc} {ls : Array Slot} (hPX : va_P D vwCl (wX cy aX S) H) (hPM : va_P D vwCl (wM cy aM T) H) (hS : va_S (fun q : Nat => s.heap.size ≤ q) s.heap H locs) (hl : lv_has ls 4 (lcs b aX aM i)) (kk : ∀ (S1 : XS) (T1 : MS) (H1 : Heap) (locs1 : List Loc), Rel S1 T1 → va_P D vwCl (wX cy aX S1) H1 → va_P D vwCl (wM cy aM T1) H1 → va_S (fun q : Nat => s.heap.size ≤ q) s.heap H1 locs1 → W p l e room_1 s m #[Value.ref b] below meth c H1 locs1 87 1932 (lw_Z below #[Value.ref b] s) (F0 m 647 ls [])) : W p l e room_1 s m #[Value.ref b] below meth c H locs 87 1932 (lw_Z below #[Value.ref b] s) (F0 m 234 ls []) := by
  obtain ⟨hx, hb, hml, hown, hts, hX, hbl, hK, hDX, hDM, hAX, hAM, hsep, hL⟩ := C
  have hbA : ¬ (fun q : Nat => s.heap.size ≤ q) b := Nat.not_le.mpr hbl
  have h1 : vp_in (nI i + 1) L := by rw [nI_1]; exact vp_in_nI (by omega) (by omega)
  have h2 : vp_in (nI i + 2) L := by rw [show (2 : Int32) = nI 2 from rfl, nI_add]; exact vp_in_nI (by omega) (by omega)
  have sX : ∀ (k : Nat) (q : Nat × va_E), (wM cy aM T)[k]? = some q → ¬ AX q.1 := fun k q hq z => hsep q.1 z ((hDM T).2 k q hq)
  obtain ⟨r, S1, T1, e1, e2, hR1⟩ := sim_key hR (xs (nI i + 1).toNatClampNeg)
  have sM : ∀ (k : Nat) (q : Nat × va_E), (wX cy aX S1)[k]? = some q → ¬ AM q.1 := fun k q hq z => hsep q.1 ((hDX S1).2 k q hq) z
  refine lv_aload_n hx hb dL_law_234 rfl (lv_at hl 1 rfl) ?_
  refine lv_aload_n hx hb dL_law_235 rfl (lv_at hl 0 rfl) ?_
  refine lv_iload_n hx hb dL_law_236 rfl (lv_at hl 3 rfl) ?_
  refine lv_iconst (v := 1) hx hb dL_law_237 (by decide) ?_
  refine lv_iadd hx hb dL_law_238 ?_
  refine va_sld hx hb hX hbl hbA hS h1 dL_law_239 ?_
  refine kLi (As := [.int (xs (nI i + 1).toNatClampNeg)]) (rest := []) ⟨hx, hb, hml, hown, hts⟩ (okX5_key l D cy aX AX hDX (xs (nI i + 1).toNatClampNeg) S r S1 e1) (cwV 1 hts gL_law_X5_key rfl rfl rfl (by decide +kernel) ⟨Nat.le_of_ble_eq_true rfl, Nat.le_of_ble_eq_true rfl⟩) hK hPX hPM sX hAX hS (va_recv hK.1 hPX (ci := 5) (q := (RX5, TX5, 9)) rfl (atX0 cy aX S)) rfl hl.1 rfl (Nat.le_of_ble_eq_true rfl) dL_law_240 ⟨Nat.le_of_ble_eq_true rfl, Nat.le_of_ble_eq_true rfl⟩ (fun H locs hPX hPM hS => ?_)
  refine lv_aload_n hx hb dL_law_243 rfl (lv_at hl 2 rfl) ?_
  refine lv_aload_n hx hb dL_law_244 rfl (lv_at hl 0 rfl) ?_
  refine lv_iload_n hx hb dL_law_245 rfl (lv_at hl 3 rfl) ?_
  refine lv_iconst (v := 1) hx hb dL_law_246 (by decide) ?_
  refine lv_iadd hx hb dL_law_247 ?_
  refine va_sld hx hb hX hbl hbA hS h1 dL_law_248 ?_
  refine kLi (As := [.int (xs (nI i + 1).toNatClampNeg)]) (rest := [.int r]) ⟨hx, hb, hml, hown, hts⟩ (okX6_key l D cy aM AM hDM (xs (nI i + 1).toNatClampNeg) T r T1 e2) (cwV 1 hts gL_law_X6_key rfl rfl rfl (by decide +kernel) ⟨Nat.le_of_ble_eq_true rfl, Nat.le_of_ble_eq_true rfl⟩) hK hPM hPX sM hAM hS (va_recv hK.1 hPM (ci := 6) (q := (RX6, TX6, 21)) rfl (atM0 cy aM T)) rfl hl.1 rfl (Nat.le_of_ble_eq_true rfl) dL_law_249 ⟨Nat.le_of_ble_eq_true rfl, Nat.le_of_ble_eq_true rfl⟩ (fun H locs hPM hPX hS => ?_)
  exact lv_icmp_eq (tgt := 647) hx hb dL_law_252 (by decide) (fun _ => kk S1 T1 H locs hR1 hPX hPM hS) (fun z => absurd rfl z)
set_option maxHeartbeats 4000000 in
set_option maxRecDepth 100000 in
theorem law_wipe {p : Program} {l : Launch} {e : Env} {s : State} {m : MethodId} {below : List Frame} {meth : Method} {c : Code} {b L : Nat} {xs : Nat → Int32} {D : va_G} {cy : Nat → ClassId} {aX aM : Nat → Nat} {AX AM : Nat → Prop} (C : LC p s m c b L xs D cy aX aM AX AM) {i : Nat} (hi : i + 3 ≤ L) {S : XS} {T : MS} (hR : Rel S T) {H : Heap} {locs : List Loc} {ls : Array Slot} (hPX : va_P D vwCl (wX cy aX S) H) (hPM : va_P D vwCl (wM cy aM T) H) (hS : va_S (fun q : Nat => s.heap.size ≤ q) s.heap H locs) (hl : lv_has ls 4 (lcs b aX aM i)) (kk : ∀ (S1 : XS) (T1 : MS) (H1 : Heap) (locs1 : List Loc), Rel S1 T1 → va_P D vwCl (wX cy aX S1) H1 → va_P D vwCl (wM cy aM T1) H1 → va_S (fun q : Nat => s.heap.size ≤ q) s.heap H1 locs1 → W p l e room_1 s m #[Value.ref b] below meth c H1 locs1 87 1932 (lw_Z below #[Value.ref b] s) (F0 m 647 ls [])) : W p l e room_1 s m #[Value.ref b] below meth c H locs 87 1932 (lw_Z below #[Value.ref b] s) (F0 m 257 ls []) := by
  obtain ⟨hx, hb, hml, hown, hts, hX, hbl, hK, hDX, hDM, hAX, hAM, hsep, hL⟩ := C
  have hbA : ¬ (fun q : Nat => s.heap.size ≤ q) b := Nat.not_le.mpr hbl
  have h1 : vp_in (nI i + 1) L := by rw [nI_1]; exact vp_in_nI (by omega) (by omega)
  have h2 : vp_in (nI i + 2) L := by rw [show (2 : Int32) = nI 2 from rfl, nI_add]; exact vp_in_nI (by omega) (by omega)
  have sX : ∀ (k : Nat) (q : Nat × va_E), (wM cy aM T)[k]? = some q → ¬ AX q.1 := fun k q hq z => hsep q.1 z ((hDM T).2 k q hq)
  obtain ⟨r, S1, T1, e1, e2, hR1⟩ := sim_wipe hR 
  have sM : ∀ (k : Nat) (q : Nat × va_E), (wX cy aX S1)[k]? = some q → ¬ AM q.1 := fun k q hq z => hsep q.1 ((hDX S1).2 k q hq) z
  refine lv_aload_n hx hb dL_law_257 rfl (lv_at hl 1 rfl) ?_
  refine kLi (As := []) (rest := []) ⟨hx, hb, hml, hown, hts⟩ (okX5_wipe l D cy aX AX hDX  S r S1 e1) (cwV 0 hts gL_law_X5_wipe rfl rfl rfl (by decide +kernel) ⟨Nat.le_of_ble_eq_true rfl, Nat.le_of_ble_eq_true rfl⟩) hK hPX hPM sX hAX hS (va_recv hK.1 hPX (ci := 5) (q := (RX5, TX5, 9)) rfl (atX0 cy aX S)) rfl hl.1 rfl (Nat.le_of_ble_eq_true rfl) dL_law_258 ⟨Nat.le_of_ble_eq_true rfl, Nat.le_of_ble_eq_true rfl⟩ (fun H locs hPX hPM hS => ?_)
  refine lv_aload_n hx hb dL_law_261 rfl (lv_at hl 2 rfl) ?_
  refine kLi (As := []) (rest := [.int r]) ⟨hx, hb, hml, hown, hts⟩ (okX6_wipe l D cy aM AM hDM  T r T1 e2) (cwV 0 hts gL_law_X6_wipe rfl rfl rfl (by decide +kernel) ⟨Nat.le_of_ble_eq_true rfl, Nat.le_of_ble_eq_true rfl⟩) hK hPM hPX sM hAM hS (va_recv hK.1 hPM (ci := 6) (q := (RX6, TX6, 21)) rfl (atM0 cy aM T)) rfl hl.1 rfl (Nat.le_of_ble_eq_true rfl) dL_law_262 ⟨Nat.le_of_ble_eq_true rfl, Nat.le_of_ble_eq_true rfl⟩ (fun H locs hPM hPX hS => ?_)
  exact lv_icmp_eq (tgt := 647) hx hb dL_law_265 (by decide) (fun _ => kk S1 T1 H locs hR1 hPX hPM hS) (fun z => absurd rfl z)
set_option maxHeartbeats 4000000 in
set_option maxRecDepth 100000 in
theorem law_paragraph {p : Program} {l : Launch} {e : Env} {s : State} {m : MethodId} {below : List Frame} {meth : Method} {c : Code} {b L : Nat} {xs : Nat → Int32} {D : va_G} {cy : Nat → ClassId} {aX aM : Nat → Nat} {AX AM : Nat → Prop} (C : LC p s m c b L xs D cy aX aM AX AM) {i : Nat} (hi : i + 3 ≤ L) {S : XS} {T : MS} (hR : Rel S T) {H : Heap} {locs : List Loc} {ls : Array Slot} (hPX : va_P D vwCl (wX cy aX S) H) (hPM : va_P D vwCl (wM cy aM T) H) (hS : va_S (fun q : Nat => s.heap.size ≤ q) s.heap H locs) (hl : lv_has ls 4 (lcs b aX aM i)) (kk : ∀ (S1 : XS) (T1 : MS) (H1 : Heap) (locs1 : List Loc), Rel S1 T1 → va_P D vwCl (wX cy aX S1) H1 → va_P D vwCl (wM cy aM T1) H1 → va_S (fun q : Nat => s.heap.size ≤ q) s.heap H1 locs1 → W p l e room_1 s m #[Value.ref b] below meth c H1 locs1 87 1932 (lw_Z below #[Value.ref b] s) (F0 m 647 ls [])) : W p l e room_1 s m #[Value.ref b] below meth c H locs 87 1932 (lw_Z below #[Value.ref b] s) (F0 m 270 ls []) := by
  obtain ⟨hx, hb, hml, hown, hts, hX, hbl, hK, hDX, hDM, hAX, hAM, hsep, hL⟩ := C
  have hbA : ¬ (fun q : Nat => s.heap.size ≤ q) b := Nat.not_le.mpr hbl
  have h1 : vp_in (nI i + 1) L := by rw [nI_1]; exact vp_in_nI (by omega) (by omega)
  have h2 : vp_in (nI i + 2) L := by rw [show (2 : Int32) = nI 2 from rfl, nI_add]; exact vp_in_nI (by omega) (by omega)
  have sX : ∀ (k : Nat) (q : Nat × va_E), (wM cy aM T)[k]? = some q → ¬ AX q.1 := fun k q hq z => hsep q.1 z ((hDM T).2 k q hq)
  obtain ⟨r, S1, T1, e1, e2, hR1⟩ := sim_paragraph hR 
  have sM : ∀ (k : Nat) (q : Nat × va_E), (wX cy aX S1)[k]? = some q → ¬ AM q.1 := fun k q hq z => hsep q.1 ((hDX S1).2 k q hq) z
  refine lv_aload_n hx hb dL_law_270 rfl (lv_at hl 1 rfl) ?_
  refine kLi (As := []) (rest := []) ⟨hx, hb, hml, hown, hts⟩ (okX5_paragraph l D cy aX AX hDX  S r S1 e1) (cwV 0 hts gL_law_X5_paragraph rfl rfl rfl (by decide +kernel) ⟨Nat.le_of_ble_eq_true rfl, Nat.le_of_ble_eq_true rfl⟩) hK hPX hPM sX hAX hS (va_recv hK.1 hPX (ci := 5) (q := (RX5, TX5, 9)) rfl (atX0 cy aX S)) rfl hl.1 rfl (Nat.le_of_ble_eq_true rfl) dL_law_271 ⟨Nat.le_of_ble_eq_true rfl, Nat.le_of_ble_eq_true rfl⟩ (fun H locs hPX hPM hS => ?_)
  refine lv_aload_n hx hb dL_law_274 rfl (lv_at hl 2 rfl) ?_
  refine kLi (As := []) (rest := [.int r]) ⟨hx, hb, hml, hown, hts⟩ (okX6_paragraph l D cy aM AM hDM  T r T1 e2) (cwV 0 hts gL_law_X6_paragraph rfl rfl rfl (by decide +kernel) ⟨Nat.le_of_ble_eq_true rfl, Nat.le_of_ble_eq_true rfl⟩) hK hPM hPX sM hAM hS (va_recv hK.1 hPM (ci := 6) (q := (RX6, TX6, 21)) rfl (atM0 cy aM T)) rfl hl.1 rfl (Nat.le_of_ble_eq_true rfl) dL_law_275 ⟨Nat.le_of_ble_eq_true rfl, Nat.le_of_ble_eq_true rfl⟩ (fun H locs hPM hPX hS => ?_)
  exact lv_icmp_eq (tgt := 647) hx hb dL_law_278 (by decide) (fun _ => kk S1 T1 H locs hR1 hPX hPM hS) (fun z => absurd rfl z)
set_option maxHeartbeats 4000000 in
set_option maxRecDepth 100000 in
theorem law_cut {p : Program} {l : Launch} {e : Env} {s : State} {m : MethodId} {below : List Frame} {meth : Method} {c : Code} {b L : Nat} {xs : Nat → Int32} {D : va_G} {cy : Nat → ClassId} {aX aM : Nat → Nat} {AX AM : Nat → Prop} (C : LC p s m c b L xs D cy aX aM AX AM) {i : Nat} (hi : i + 3 ≤ L) {S : XS} {T : MS} (hR : Rel S T) {H : Heap} {locs : List Loc} {ls : Array Slot} (hPX : va_P D vwCl (wX cy aX S) H) (hPM : va_P D vwCl (wM cy aM T) H) (hS : va_S (fun q : Nat => s.heap.size ≤ q) s.heap H locs) (hl : lv_has ls 4 (lcs b aX aM i)) (kk : ∀ (S1 : XS) (T1 : MS) (H1 : Heap) (locs1 : List Loc), Rel S1 T1 → va_P D vwCl (wX cy aX S1) H1 → va_P D vwCl (wM cy aM T1) H1 → va_S (fun q : Nat => s.heap.size ≤ q) s.heap H1 locs1 → W p l e room_1 s m #[Value.ref b] below meth c H1 locs1 87 1932 (lw_Z below #[Value.ref b] s) (F0 m 647 ls [])) : W p l e room_1 s m #[Value.ref b] below meth c H locs 87 1932 (lw_Z below #[Value.ref b] s) (F0 m 283 ls []) := by
  obtain ⟨hx, hb, hml, hown, hts, hX, hbl, hK, hDX, hDM, hAX, hAM, hsep, hL⟩ := C
  have hbA : ¬ (fun q : Nat => s.heap.size ≤ q) b := Nat.not_le.mpr hbl
  have h1 : vp_in (nI i + 1) L := by rw [nI_1]; exact vp_in_nI (by omega) (by omega)
  have h2 : vp_in (nI i + 2) L := by rw [show (2 : Int32) = nI 2 from rfl, nI_add]; exact vp_in_nI (by omega) (by omega)
  have sX : ∀ (k : Nat) (q : Nat × va_E), (wM cy aM T)[k]? = some q → ¬ AX q.1 := fun k q hq z => hsep q.1 z ((hDM T).2 k q hq)
  obtain ⟨r, S1, T1, e1, e2, hR1⟩ := sim_cut hR 
  have sM : ∀ (k : Nat) (q : Nat × va_E), (wX cy aX S1)[k]? = some q → ¬ AM q.1 := fun k q hq z => hsep q.1 ((hDX S1).2 k q hq) z
  refine lv_aload_n hx hb dL_law_283 rfl (lv_at hl 1 rfl) ?_
  refine kLi (As := []) (rest := []) ⟨hx, hb, hml, hown, hts⟩ (okX5_cut l D cy aX AX hDX  S r S1 e1) (cwV 0 hts gL_law_X5_cut rfl rfl rfl (by decide +kernel) ⟨Nat.le_of_ble_eq_true rfl, Nat.le_of_ble_eq_true rfl⟩) hK hPX hPM sX hAX hS (va_recv hK.1 hPX (ci := 5) (q := (RX5, TX5, 9)) rfl (atX0 cy aX S)) rfl hl.1 rfl (Nat.le_of_ble_eq_true rfl) dL_law_284 ⟨Nat.le_of_ble_eq_true rfl, Nat.le_of_ble_eq_true rfl⟩ (fun H locs hPX hPM hS => ?_)
  refine lv_aload_n hx hb dL_law_287 rfl (lv_at hl 2 rfl) ?_
  refine kLi (As := []) (rest := [.int r]) ⟨hx, hb, hml, hown, hts⟩ (okX6_cut l D cy aM AM hDM  T r T1 e2) (cwV 0 hts gL_law_X6_cut rfl rfl rfl (by decide +kernel) ⟨Nat.le_of_ble_eq_true rfl, Nat.le_of_ble_eq_true rfl⟩) hK hPM hPX sM hAM hS (va_recv hK.1 hPM (ci := 6) (q := (RX6, TX6, 21)) rfl (atM0 cy aM T)) rfl hl.1 rfl (Nat.le_of_ble_eq_true rfl) dL_law_288 ⟨Nat.le_of_ble_eq_true rfl, Nat.le_of_ble_eq_true rfl⟩ (fun H locs hPM hPX hS => ?_)
  exact lv_icmp_eq (tgt := 647) hx hb dL_law_291 (by decide) (fun _ => kk S1 T1 H locs hR1 hPX hPM hS) (fun z => absurd rfl z)
set_option maxHeartbeats 4000000 in
set_option maxRecDepth 100000 in
theorem law_ofParagraph {p : Program} {l : Launch} {e : Env} {s : State} {m : MethodId} {below : List Frame} {meth : Method} {c : Code} {b L : Nat} {xs : Nat → Int32} {D : va_G} {cy : Nat → ClassId} {aX aM : Nat → Nat} {AX AM : Nat → Prop} (C : LC p s m c b L xs D cy aX aM AX AM) {i : Nat} (hi : i + 3 ≤ L) {S : XS} {T : MS} (hR : Rel S T) {H : Heap} {locs : List Loc} {ls : Array Slot} (hPX : va_P D vwCl (wX cy aX S) H) (hPM : va_P D vwCl (wM cy aM T) H) (hS : va_S (fun q : Nat => s.heap.size ≤ q) s.heap H locs) (hl : lv_has ls 4 (lcs b aX aM i)) (kk : ∀ (S1 : XS) (T1 : MS) (H1 : Heap) (locs1 : List Loc), Rel S1 T1 → va_P D vwCl (wX cy aX S1) H1 → va_P D vwCl (wM cy aM T1) H1 → va_S (fun q : Nat => s.heap.size ≤ q) s.heap H1 locs1 → W p l e room_1 s m #[Value.ref b] below meth c H1 locs1 87 1932 (lw_Z below #[Value.ref b] s) (F0 m 647 ls [])) : W p l e room_1 s m #[Value.ref b] below meth c H locs 87 1932 (lw_Z below #[Value.ref b] s) (F0 m 296 ls []) := by
  obtain ⟨hx, hb, hml, hown, hts, hX, hbl, hK, hDX, hDM, hAX, hAM, hsep, hL⟩ := C
  have hbA : ¬ (fun q : Nat => s.heap.size ≤ q) b := Nat.not_le.mpr hbl
  have h1 : vp_in (nI i + 1) L := by rw [nI_1]; exact vp_in_nI (by omega) (by omega)
  have h2 : vp_in (nI i + 2) L := by rw [show (2 : Int32) = nI 2 from rfl, nI_add]; exact vp_in_nI (by omega) (by omega)
  have sX : ∀ (k : Nat) (q : Nat × va_E), (wM cy aM T)[k]? = some q → ¬ AX q.1 := fun k q hq z => hsep q.1 z ((hDM T).2 k q hq)
  obtain ⟨r, e1, e2⟩ := sim_ofParagraph hR (xs (nI i + 1).toNatClampNeg) (xs (nI i + 2).toNatClampNeg)
  have sM : ∀ (k : Nat) (q : Nat × va_E), (wX cy aX S)[k]? = some q → ¬ AM q.1 := fun k q hq z => hsep q.1 ((hDX S).2 k q hq) z
  refine lv_aload_n hx hb dL_law_296 rfl (lv_at hl 1 rfl) ?_
  refine lv_aload_n hx hb dL_law_297 rfl (lv_at hl 0 rfl) ?_
  refine lv_iload_n hx hb dL_law_298 rfl (lv_at hl 3 rfl) ?_
  refine lv_iconst (v := 1) hx hb dL_law_299 (by decide) ?_
  refine lv_iadd hx hb dL_law_300 ?_
  refine va_sld hx hb hX hbl hbA hS h1 dL_law_301 ?_
  refine lv_aload_n hx hb dL_law_302 rfl (lv_at hl 0 rfl) ?_
  refine lv_iload_n hx hb dL_law_303 rfl (lv_at hl 3 rfl) ?_
  refine lv_iconst (v := 2) hx hb dL_law_304 (by decide) ?_
  refine lv_iadd hx hb dL_law_305 ?_
  refine va_sld hx hb hX hbl hbA hS h2 dL_law_306 ?_
  refine kLi (As := [.int (xs (nI i + 1).toNatClampNeg), .int (xs (nI i + 2).toNatClampNeg)]) (rest := []) ⟨hx, hb, hml, hown, hts⟩ (okX5_ofParagraph l D cy aX AX hDX (xs (nI i + 1).toNatClampNeg) (xs (nI i + 2).toNatClampNeg) S r e1) (cwV 2 hts gL_law_X5_ofParagraph rfl rfl rfl (by decide +kernel) ⟨Nat.le_of_ble_eq_true rfl, Nat.le_of_ble_eq_true rfl⟩) hK hPX hPM sX hAX hS (va_recv hK.1 hPX (ci := 5) (q := (RX5, TX5, 9)) rfl (atX0 cy aX S)) rfl hl.1 rfl (Nat.le_of_ble_eq_true rfl) dL_law_307 ⟨Nat.le_of_ble_eq_true rfl, Nat.le_of_ble_eq_true rfl⟩ (fun H locs hPX hPM hS => ?_)
  refine lv_aload_n hx hb dL_law_310 rfl (lv_at hl 2 rfl) ?_
  refine lv_aload_n hx hb dL_law_311 rfl (lv_at hl 0 rfl) ?_
  refine lv_iload_n hx hb dL_law_312 rfl (lv_at hl 3 rfl) ?_
  refine lv_iconst (v := 1) hx hb dL_law_313 (by decide) ?_
  refine lv_iadd hx hb dL_law_314 ?_
  refine va_sld hx hb hX hbl hbA hS h1 dL_law_315 ?_
  refine lv_aload_n hx hb dL_law_316 rfl (lv_at hl 0 rfl) ?_
  refine lv_iload_n hx hb dL_law_317 rfl (lv_at hl 3 rfl) ?_
  refine lv_iconst (v := 2) hx hb dL_law_318 (by decide) ?_
  refine lv_iadd hx hb dL_law_319 ?_
  refine va_sld hx hb hX hbl hbA hS h2 dL_law_320 ?_
  refine kLi (As := [.int (xs (nI i + 1).toNatClampNeg), .int (xs (nI i + 2).toNatClampNeg)]) (rest := [.int r]) ⟨hx, hb, hml, hown, hts⟩ (okX6_ofParagraph l D cy aM AM hDM (xs (nI i + 1).toNatClampNeg) (xs (nI i + 2).toNatClampNeg) T r e2) (cwV 2 hts gL_law_X6_ofParagraph rfl rfl rfl (by decide +kernel) ⟨Nat.le_of_ble_eq_true rfl, Nat.le_of_ble_eq_true rfl⟩) hK hPM hPX sM hAM hS (va_recv hK.1 hPM (ci := 6) (q := (RX6, TX6, 21)) rfl (atM0 cy aM T)) rfl hl.1 rfl (Nat.le_of_ble_eq_true rfl) dL_law_321 ⟨Nat.le_of_ble_eq_true rfl, Nat.le_of_ble_eq_true rfl⟩ (fun H locs hPM hPX hS => ?_)
  exact lv_icmp_eq (tgt := 647) hx hb dL_law_324 (by decide) (fun _ => kk S T H locs hR hPX hPM hS) (fun z => absurd rfl z)
set_option maxHeartbeats 4000000 in
set_option maxRecDepth 100000 in
theorem law_set {p : Program} {l : Launch} {e : Env} {s : State} {m : MethodId} {below : List Frame} {meth : Method} {c : Code} {b L : Nat} {xs : Nat → Int32} {D : va_G} {cy : Nat → ClassId} {aX aM : Nat → Nat} {AX AM : Nat → Prop} (C : LC p s m c b L xs D cy aX aM AX AM) {i : Nat} (hi : i + 3 ≤ L) {S : XS} {T : MS} (hR : Rel S T) {H : Heap} {locs : List Loc} {ls : Array Slot} (hPX : va_P D vwCl (wX cy aX S) H) (hPM : va_P D vwCl (wM cy aM T) H) (hS : va_S (fun q : Nat => s.heap.size ≤ q) s.heap H locs) (hl : lv_has ls 4 (lcs b aX aM i)) (kk : ∀ (S1 : XS) (T1 : MS) (H1 : Heap) (locs1 : List Loc), Rel S1 T1 → va_P D vwCl (wX cy aX S1) H1 → va_P D vwCl (wM cy aM T1) H1 → va_S (fun q : Nat => s.heap.size ≤ q) s.heap H1 locs1 → W p l e room_1 s m #[Value.ref b] below meth c H1 locs1 87 1932 (lw_Z below #[Value.ref b] s) (F0 m 647 ls [])) : W p l e room_1 s m #[Value.ref b] below meth c H locs 87 1932 (lw_Z below #[Value.ref b] s) (F0 m 329 ls []) := by
  obtain ⟨hx, hb, hml, hown, hts, hX, hbl, hK, hDX, hDM, hAX, hAM, hsep, hL⟩ := C
  have hbA : ¬ (fun q : Nat => s.heap.size ≤ q) b := Nat.not_le.mpr hbl
  have h1 : vp_in (nI i + 1) L := by rw [nI_1]; exact vp_in_nI (by omega) (by omega)
  have h2 : vp_in (nI i + 2) L := by rw [show (2 : Int32) = nI 2 from rfl, nI_add]; exact vp_in_nI (by omega) (by omega)
  have sX : ∀ (k : Nat) (q : Nat × va_E), (wM cy aM T)[k]? = some q → ¬ AX q.1 := fun k q hq z => hsep q.1 z ((hDM T).2 k q hq)
  obtain ⟨r, S1, T1, e1, e2, hR1⟩ := sim_set hR (xs (nI i + 1).toNatClampNeg) (xs (nI i + 2).toNatClampNeg)
  have sM : ∀ (k : Nat) (q : Nat × va_E), (wX cy aX S1)[k]? = some q → ¬ AM q.1 := fun k q hq z => hsep q.1 ((hDX S1).2 k q hq) z
  refine lv_aload_n hx hb dL_law_329 rfl (lv_at hl 1 rfl) ?_
  refine lv_aload_n hx hb dL_law_330 rfl (lv_at hl 0 rfl) ?_
  refine lv_iload_n hx hb dL_law_331 rfl (lv_at hl 3 rfl) ?_
  refine lv_iconst (v := 1) hx hb dL_law_332 (by decide) ?_
  refine lv_iadd hx hb dL_law_333 ?_
  refine va_sld hx hb hX hbl hbA hS h1 dL_law_334 ?_
  refine lv_aload_n hx hb dL_law_335 rfl (lv_at hl 0 rfl) ?_
  refine lv_iload_n hx hb dL_law_336 rfl (lv_at hl 3 rfl) ?_
  refine lv_iconst (v := 2) hx hb dL_law_337 (by decide) ?_
  refine lv_iadd hx hb dL_law_338 ?_
  refine va_sld hx hb hX hbl hbA hS h2 dL_law_339 ?_
  refine kLi (As := [.int (xs (nI i + 1).toNatClampNeg), .int (xs (nI i + 2).toNatClampNeg)]) (rest := []) ⟨hx, hb, hml, hown, hts⟩ (okX5_set l D cy aX AX hDX (xs (nI i + 1).toNatClampNeg) (xs (nI i + 2).toNatClampNeg) S r S1 e1) (cwV 2 hts gL_law_X5_set rfl rfl rfl (by decide +kernel) ⟨Nat.le_of_ble_eq_true rfl, Nat.le_of_ble_eq_true rfl⟩) hK hPX hPM sX hAX hS (va_recv hK.1 hPX (ci := 5) (q := (RX5, TX5, 9)) rfl (atX0 cy aX S)) rfl hl.1 rfl (Nat.le_of_ble_eq_true rfl) dL_law_340 ⟨Nat.le_of_ble_eq_true rfl, Nat.le_of_ble_eq_true rfl⟩ (fun H locs hPX hPM hS => ?_)
  refine lv_aload_n hx hb dL_law_343 rfl (lv_at hl 2 rfl) ?_
  refine lv_aload_n hx hb dL_law_344 rfl (lv_at hl 0 rfl) ?_
  refine lv_iload_n hx hb dL_law_345 rfl (lv_at hl 3 rfl) ?_
  refine lv_iconst (v := 1) hx hb dL_law_346 (by decide) ?_
  refine lv_iadd hx hb dL_law_347 ?_
  refine va_sld hx hb hX hbl hbA hS h1 dL_law_348 ?_
  refine lv_aload_n hx hb dL_law_349 rfl (lv_at hl 0 rfl) ?_
  refine lv_iload_n hx hb dL_law_350 rfl (lv_at hl 3 rfl) ?_
  refine lv_iconst (v := 2) hx hb dL_law_351 (by decide) ?_
  refine lv_iadd hx hb dL_law_352 ?_
  refine va_sld hx hb hX hbl hbA hS h2 dL_law_353 ?_
  refine kLi (As := [.int (xs (nI i + 1).toNatClampNeg), .int (xs (nI i + 2).toNatClampNeg)]) (rest := [.int r]) ⟨hx, hb, hml, hown, hts⟩ (okX6_set l D cy aM AM hDM (xs (nI i + 1).toNatClampNeg) (xs (nI i + 2).toNatClampNeg) T r T1 e2) (cwV 2 hts gL_law_X6_set rfl rfl rfl (by decide +kernel) ⟨Nat.le_of_ble_eq_true rfl, Nat.le_of_ble_eq_true rfl⟩) hK hPM hPX sM hAM hS (va_recv hK.1 hPM (ci := 6) (q := (RX6, TX6, 21)) rfl (atM0 cy aM T)) rfl hl.1 rfl (Nat.le_of_ble_eq_true rfl) dL_law_354 ⟨Nat.le_of_ble_eq_true rfl, Nat.le_of_ble_eq_true rfl⟩ (fun H locs hPM hPX hS => ?_)
  exact lv_icmp_eq (tgt := 647) hx hb dL_law_357 (by decide) (fun _ => kk S1 T1 H locs hR1 hPX hPM hS) (fun z => absurd rfl z)
set_option maxHeartbeats 4000000 in
set_option maxRecDepth 100000 in
theorem law_hint {p : Program} {l : Launch} {e : Env} {s : State} {m : MethodId} {below : List Frame} {meth : Method} {c : Code} {b L : Nat} {xs : Nat → Int32} {D : va_G} {cy : Nat → ClassId} {aX aM : Nat → Nat} {AX AM : Nat → Prop} (C : LC p s m c b L xs D cy aX aM AX AM) {i : Nat} (hi : i + 3 ≤ L) {S : XS} {T : MS} (hR : Rel S T) {H : Heap} {locs : List Loc} {ls : Array Slot} (hPX : va_P D vwCl (wX cy aX S) H) (hPM : va_P D vwCl (wM cy aM T) H) (hS : va_S (fun q : Nat => s.heap.size ≤ q) s.heap H locs) (hl : lv_has ls 4 (lcs b aX aM i)) (kk : ∀ (S1 : XS) (T1 : MS) (H1 : Heap) (locs1 : List Loc), Rel S1 T1 → va_P D vwCl (wX cy aX S1) H1 → va_P D vwCl (wM cy aM T1) H1 → va_S (fun q : Nat => s.heap.size ≤ q) s.heap H1 locs1 → W p l e room_1 s m #[Value.ref b] below meth c H1 locs1 87 1932 (lw_Z below #[Value.ref b] s) (F0 m 647 ls [])) : W p l e room_1 s m #[Value.ref b] below meth c H locs 87 1932 (lw_Z below #[Value.ref b] s) (F0 m 362 ls []) := by
  obtain ⟨hx, hb, hml, hown, hts, hX, hbl, hK, hDX, hDM, hAX, hAM, hsep, hL⟩ := C
  have hbA : ¬ (fun q : Nat => s.heap.size ≤ q) b := Nat.not_le.mpr hbl
  have h1 : vp_in (nI i + 1) L := by rw [nI_1]; exact vp_in_nI (by omega) (by omega)
  have h2 : vp_in (nI i + 2) L := by rw [show (2 : Int32) = nI 2 from rfl, nI_add]; exact vp_in_nI (by omega) (by omega)
  have sX : ∀ (k : Nat) (q : Nat × va_E), (wM cy aM T)[k]? = some q → ¬ AX q.1 := fun k q hq z => hsep q.1 z ((hDM T).2 k q hq)
  obtain ⟨r, S1, T1, e1, e2, hR1⟩ := sim_hint hR (xs (nI i + 1).toNatClampNeg) (xs (nI i + 2).toNatClampNeg)
  have sM : ∀ (k : Nat) (q : Nat × va_E), (wX cy aX S1)[k]? = some q → ¬ AM q.1 := fun k q hq z => hsep q.1 ((hDX S1).2 k q hq) z
  refine lv_aload_n hx hb dL_law_362 rfl (lv_at hl 1 rfl) ?_
  refine lv_aload_n hx hb dL_law_363 rfl (lv_at hl 0 rfl) ?_
  refine lv_iload_n hx hb dL_law_364 rfl (lv_at hl 3 rfl) ?_
  refine lv_iconst (v := 1) hx hb dL_law_365 (by decide) ?_
  refine lv_iadd hx hb dL_law_366 ?_
  refine va_sld hx hb hX hbl hbA hS h1 dL_law_367 ?_
  refine lv_aload_n hx hb dL_law_368 rfl (lv_at hl 0 rfl) ?_
  refine lv_iload_n hx hb dL_law_369 rfl (lv_at hl 3 rfl) ?_
  refine lv_iconst (v := 2) hx hb dL_law_370 (by decide) ?_
  refine lv_iadd hx hb dL_law_371 ?_
  refine va_sld hx hb hX hbl hbA hS h2 dL_law_372 ?_
  refine kLi (As := [.int (xs (nI i + 1).toNatClampNeg), .int (xs (nI i + 2).toNatClampNeg)]) (rest := []) ⟨hx, hb, hml, hown, hts⟩ (okX5_hint l D cy aX AX hDX (xs (nI i + 1).toNatClampNeg) (xs (nI i + 2).toNatClampNeg) S r S1 e1) (cwV 2 hts gL_law_X5_hint rfl rfl rfl (by decide +kernel) ⟨Nat.le_of_ble_eq_true rfl, Nat.le_of_ble_eq_true rfl⟩) hK hPX hPM sX hAX hS (va_recv hK.1 hPX (ci := 5) (q := (RX5, TX5, 9)) rfl (atX0 cy aX S)) rfl hl.1 rfl (Nat.le_of_ble_eq_true rfl) dL_law_373 ⟨Nat.le_of_ble_eq_true rfl, Nat.le_of_ble_eq_true rfl⟩ (fun H locs hPX hPM hS => ?_)
  refine lv_aload_n hx hb dL_law_376 rfl (lv_at hl 2 rfl) ?_
  refine lv_aload_n hx hb dL_law_377 rfl (lv_at hl 0 rfl) ?_
  refine lv_iload_n hx hb dL_law_378 rfl (lv_at hl 3 rfl) ?_
  refine lv_iconst (v := 1) hx hb dL_law_379 (by decide) ?_
  refine lv_iadd hx hb dL_law_380 ?_
  refine va_sld hx hb hX hbl hbA hS h1 dL_law_381 ?_
  refine lv_aload_n hx hb dL_law_382 rfl (lv_at hl 0 rfl) ?_
  refine lv_iload_n hx hb dL_law_383 rfl (lv_at hl 3 rfl) ?_
  refine lv_iconst (v := 2) hx hb dL_law_384 (by decide) ?_
  refine lv_iadd hx hb dL_law_385 ?_
  refine va_sld hx hb hX hbl hbA hS h2 dL_law_386 ?_
  refine kLi (As := [.int (xs (nI i + 1).toNatClampNeg), .int (xs (nI i + 2).toNatClampNeg)]) (rest := [.int r]) ⟨hx, hb, hml, hown, hts⟩ (okX6_hint l D cy aM AM hDM (xs (nI i + 1).toNatClampNeg) (xs (nI i + 2).toNatClampNeg) T r T1 e2) (cwV 2 hts gL_law_X6_hint rfl rfl rfl (by decide +kernel) ⟨Nat.le_of_ble_eq_true rfl, Nat.le_of_ble_eq_true rfl⟩) hK hPM hPX sM hAM hS (va_recv hK.1 hPM (ci := 6) (q := (RX6, TX6, 21)) rfl (atM0 cy aM T)) rfl hl.1 rfl (Nat.le_of_ble_eq_true rfl) dL_law_387 ⟨Nat.le_of_ble_eq_true rfl, Nat.le_of_ble_eq_true rfl⟩ (fun H locs hPM hPX hS => ?_)
  exact lv_icmp_eq (tgt := 647) hx hb dL_law_390 (by decide) (fun _ => kk S1 T1 H locs hR1 hPX hPM hS) (fun z => absurd rfl z)
set_option maxHeartbeats 4000000 in
set_option maxRecDepth 100000 in
theorem law_link {p : Program} {l : Launch} {e : Env} {s : State} {m : MethodId} {below : List Frame} {meth : Method} {c : Code} {b L : Nat} {xs : Nat → Int32} {D : va_G} {cy : Nat → ClassId} {aX aM : Nat → Nat} {AX AM : Nat → Prop} (C : LC p s m c b L xs D cy aX aM AX AM) {i : Nat} (hi : i + 3 ≤ L) {S : XS} {T : MS} (hR : Rel S T) {H : Heap} {locs : List Loc} {ls : Array Slot} (hPX : va_P D vwCl (wX cy aX S) H) (hPM : va_P D vwCl (wM cy aM T) H) (hS : va_S (fun q : Nat => s.heap.size ≤ q) s.heap H locs) (hl : lv_has ls 4 (lcs b aX aM i)) (kk : ∀ (S1 : XS) (T1 : MS) (H1 : Heap) (locs1 : List Loc), Rel S1 T1 → va_P D vwCl (wX cy aX S1) H1 → va_P D vwCl (wM cy aM T1) H1 → va_S (fun q : Nat => s.heap.size ≤ q) s.heap H1 locs1 → W p l e room_1 s m #[Value.ref b] below meth c H1 locs1 87 1932 (lw_Z below #[Value.ref b] s) (F0 m 647 ls [])) : W p l e room_1 s m #[Value.ref b] below meth c H locs 87 1932 (lw_Z below #[Value.ref b] s) (F0 m 395 ls []) := by
  obtain ⟨hx, hb, hml, hown, hts, hX, hbl, hK, hDX, hDM, hAX, hAM, hsep, hL⟩ := C
  have hbA : ¬ (fun q : Nat => s.heap.size ≤ q) b := Nat.not_le.mpr hbl
  have h1 : vp_in (nI i + 1) L := by rw [nI_1]; exact vp_in_nI (by omega) (by omega)
  have h2 : vp_in (nI i + 2) L := by rw [show (2 : Int32) = nI 2 from rfl, nI_add]; exact vp_in_nI (by omega) (by omega)
  have sX : ∀ (k : Nat) (q : Nat × va_E), (wM cy aM T)[k]? = some q → ¬ AX q.1 := fun k q hq z => hsep q.1 z ((hDM T).2 k q hq)
  obtain ⟨r, e1, e2⟩ := sim_link hR (xs (nI i + 1).toNatClampNeg)
  have sM : ∀ (k : Nat) (q : Nat × va_E), (wX cy aX S)[k]? = some q → ¬ AM q.1 := fun k q hq z => hsep q.1 ((hDX S).2 k q hq) z
  refine lv_aload_n hx hb dL_law_395 rfl (lv_at hl 1 rfl) ?_
  refine lv_aload_n hx hb dL_law_396 rfl (lv_at hl 0 rfl) ?_
  refine lv_iload_n hx hb dL_law_397 rfl (lv_at hl 3 rfl) ?_
  refine lv_iconst (v := 1) hx hb dL_law_398 (by decide) ?_
  refine lv_iadd hx hb dL_law_399 ?_
  refine va_sld hx hb hX hbl hbA hS h1 dL_law_400 ?_
  refine kLi (As := [.int (xs (nI i + 1).toNatClampNeg)]) (rest := []) ⟨hx, hb, hml, hown, hts⟩ (okX5_link l D cy aX AX hDX (xs (nI i + 1).toNatClampNeg) S r e1) (cwV 1 hts gL_law_X5_link rfl rfl rfl (by decide +kernel) ⟨Nat.le_of_ble_eq_true rfl, Nat.le_of_ble_eq_true rfl⟩) hK hPX hPM sX hAX hS (va_recv hK.1 hPX (ci := 5) (q := (RX5, TX5, 9)) rfl (atX0 cy aX S)) rfl hl.1 rfl (Nat.le_of_ble_eq_true rfl) dL_law_401 ⟨Nat.le_of_ble_eq_true rfl, Nat.le_of_ble_eq_true rfl⟩ (fun H locs hPX hPM hS => ?_)
  refine lv_aload_n hx hb dL_law_404 rfl (lv_at hl 2 rfl) ?_
  refine lv_aload_n hx hb dL_law_405 rfl (lv_at hl 0 rfl) ?_
  refine lv_iload_n hx hb dL_law_406 rfl (lv_at hl 3 rfl) ?_
  refine lv_iconst (v := 1) hx hb dL_law_407 (by decide) ?_
  refine lv_iadd hx hb dL_law_408 ?_
  refine va_sld hx hb hX hbl hbA hS h1 dL_law_409 ?_
  refine kLi (As := [.int (xs (nI i + 1).toNatClampNeg)]) (rest := [.int r]) ⟨hx, hb, hml, hown, hts⟩ (okX6_link l D cy aM AM hDM (xs (nI i + 1).toNatClampNeg) T r e2) (cwV 1 hts gL_law_X6_link rfl rfl rfl (by decide +kernel) ⟨Nat.le_of_ble_eq_true rfl, Nat.le_of_ble_eq_true rfl⟩) hK hPM hPX sM hAM hS (va_recv hK.1 hPM (ci := 6) (q := (RX6, TX6, 21)) rfl (atM0 cy aM T)) rfl hl.1 rfl (Nat.le_of_ble_eq_true rfl) dL_law_410 ⟨Nat.le_of_ble_eq_true rfl, Nat.le_of_ble_eq_true rfl⟩ (fun H locs hPM hPX hS => ?_)
  exact lv_icmp_eq (tgt := 647) hx hb dL_law_413 (by decide) (fun _ => kk S T H locs hR hPX hPM hS) (fun z => absurd rfl z)
set_option maxHeartbeats 4000000 in
set_option maxRecDepth 100000 in
theorem law_ways {p : Program} {l : Launch} {e : Env} {s : State} {m : MethodId} {below : List Frame} {meth : Method} {c : Code} {b L : Nat} {xs : Nat → Int32} {D : va_G} {cy : Nat → ClassId} {aX aM : Nat → Nat} {AX AM : Nat → Prop} (C : LC p s m c b L xs D cy aX aM AX AM) {i : Nat} (hi : i + 3 ≤ L) {S : XS} {T : MS} (hR : Rel S T) {H : Heap} {locs : List Loc} {ls : Array Slot} (hPX : va_P D vwCl (wX cy aX S) H) (hPM : va_P D vwCl (wM cy aM T) H) (hS : va_S (fun q : Nat => s.heap.size ≤ q) s.heap H locs) (hl : lv_has ls 4 (lcs b aX aM i)) (kk : ∀ (S1 : XS) (T1 : MS) (H1 : Heap) (locs1 : List Loc), Rel S1 T1 → va_P D vwCl (wX cy aX S1) H1 → va_P D vwCl (wM cy aM T1) H1 → va_S (fun q : Nat => s.heap.size ≤ q) s.heap H1 locs1 → W p l e room_1 s m #[Value.ref b] below meth c H1 locs1 87 1932 (lw_Z below #[Value.ref b] s) (F0 m 647 ls [])) : W p l e room_1 s m #[Value.ref b] below meth c H locs 87 1932 (lw_Z below #[Value.ref b] s) (F0 m 418 ls []) := by
  obtain ⟨hx, hb, hml, hown, hts, hX, hbl, hK, hDX, hDM, hAX, hAM, hsep, hL⟩ := C
  have hbA : ¬ (fun q : Nat => s.heap.size ≤ q) b := Nat.not_le.mpr hbl
  have h1 : vp_in (nI i + 1) L := by rw [nI_1]; exact vp_in_nI (by omega) (by omega)
  have h2 : vp_in (nI i + 2) L := by rw [show (2 : Int32) = nI 2 from rfl, nI_add]; exact vp_in_nI (by omega) (by omega)
  have sX : ∀ (k : Nat) (q : Nat × va_E), (wM cy aM T)[k]? = some q → ¬ AX q.1 := fun k q hq z => hsep q.1 z ((hDM T).2 k q hq)
  obtain ⟨r, S1, T1, e1, e2, hR1⟩ := sim_ways hR 
  have sM : ∀ (k : Nat) (q : Nat × va_E), (wX cy aX S1)[k]? = some q → ¬ AM q.1 := fun k q hq z => hsep q.1 ((hDX S1).2 k q hq) z
  refine lv_aload_n hx hb dL_law_418 rfl (lv_at hl 1 rfl) ?_
  refine kLl (As := []) (rest := []) ⟨hx, hb, hml, hown, hts⟩ (okX5_ways l D cy aX AX hDX  S r S1 e1) (cwV 0 hts gL_law_X5_ways rfl rfl rfl (by decide +kernel) ⟨Nat.le_of_ble_eq_true rfl, Nat.le_of_ble_eq_true rfl⟩) hK hPX hPM sX hAX hS (va_recv hK.1 hPX (ci := 5) (q := (RX5, TX5, 9)) rfl (atX0 cy aX S)) rfl hl.1 rfl (Nat.le_of_ble_eq_true rfl) dL_law_419 ⟨Nat.le_of_ble_eq_true rfl, Nat.le_of_ble_eq_true rfl⟩ (fun H locs hPX hPM hS => ?_)
  refine lv_aload_n hx hb dL_law_422 rfl (lv_at hl 2 rfl) ?_
  refine kLl (As := []) (rest := [.long r]) ⟨hx, hb, hml, hown, hts⟩ (okX6_ways l D cy aM AM hDM  T r T1 e2) (cwV 0 hts gL_law_X6_ways rfl rfl rfl (by decide +kernel) ⟨Nat.le_of_ble_eq_true rfl, Nat.le_of_ble_eq_true rfl⟩) hK hPM hPX sM hAM hS (va_recv hK.1 hPM (ci := 6) (q := (RX6, TX6, 21)) rfl (atM0 cy aM T)) rfl hl.1 rfl (Nat.le_of_ble_eq_true rfl) dL_law_423 ⟨Nat.le_of_ble_eq_true rfl, Nat.le_of_ble_eq_true rfl⟩ (fun H locs hPM hPX hS => ?_)
  refine W.lcmp hx hb dL_law_426 ?_
  exact lv_if_eq (tgt := 647) hx hb dL_law_427 (by decide) (fun _ => kk S1 T1 H locs hR1 hPX hPM hS) (fun z => absurd ((lg_cmp_eq r r).mpr rfl) z)
set_option maxHeartbeats 4000000 in
set_option maxRecDepth 100000 in
theorem law_would {p : Program} {l : Launch} {e : Env} {s : State} {m : MethodId} {below : List Frame} {meth : Method} {c : Code} {b L : Nat} {xs : Nat → Int32} {D : va_G} {cy : Nat → ClassId} {aX aM : Nat → Nat} {AX AM : Nat → Prop} (C : LC p s m c b L xs D cy aX aM AX AM) {i : Nat} (hi : i + 3 ≤ L) {S : XS} {T : MS} (hR : Rel S T) {H : Heap} {locs : List Loc} {ls : Array Slot} (hPX : va_P D vwCl (wX cy aX S) H) (hPM : va_P D vwCl (wM cy aM T) H) (hS : va_S (fun q : Nat => s.heap.size ≤ q) s.heap H locs) (hl : lv_has ls 4 (lcs b aX aM i)) (kk : ∀ (S1 : XS) (T1 : MS) (H1 : Heap) (locs1 : List Loc), Rel S1 T1 → va_P D vwCl (wX cy aX S1) H1 → va_P D vwCl (wM cy aM T1) H1 → va_S (fun q : Nat => s.heap.size ≤ q) s.heap H1 locs1 → W p l e room_1 s m #[Value.ref b] below meth c H1 locs1 87 1932 (lw_Z below #[Value.ref b] s) (F0 m 647 ls [])) : W p l e room_1 s m #[Value.ref b] below meth c H locs 87 1932 (lw_Z below #[Value.ref b] s) (F0 m 432 ls []) := by
  obtain ⟨hx, hb, hml, hown, hts, hX, hbl, hK, hDX, hDM, hAX, hAM, hsep, hL⟩ := C
  have hbA : ¬ (fun q : Nat => s.heap.size ≤ q) b := Nat.not_le.mpr hbl
  have h1 : vp_in (nI i + 1) L := by rw [nI_1]; exact vp_in_nI (by omega) (by omega)
  have h2 : vp_in (nI i + 2) L := by rw [show (2 : Int32) = nI 2 from rfl, nI_add]; exact vp_in_nI (by omega) (by omega)
  have sX : ∀ (k : Nat) (q : Nat × va_E), (wM cy aM T)[k]? = some q → ¬ AX q.1 := fun k q hq z => hsep q.1 z ((hDM T).2 k q hq)
  obtain ⟨r, S1, T1, e1, e2, hR1⟩ := sim_would hR (xs (nI i + 1).toNatClampNeg) (xs (nI i + 2).toNatClampNeg)
  have sM : ∀ (k : Nat) (q : Nat × va_E), (wX cy aX S1)[k]? = some q → ¬ AM q.1 := fun k q hq z => hsep q.1 ((hDX S1).2 k q hq) z
  refine lv_aload_n hx hb dL_law_432 rfl (lv_at hl 1 rfl) ?_
  refine lv_aload_n hx hb dL_law_433 rfl (lv_at hl 0 rfl) ?_
  refine lv_iload_n hx hb dL_law_434 rfl (lv_at hl 3 rfl) ?_
  refine lv_iconst (v := 1) hx hb dL_law_435 (by decide) ?_
  refine lv_iadd hx hb dL_law_436 ?_
  refine va_sld hx hb hX hbl hbA hS h1 dL_law_437 ?_
  refine lv_aload_n hx hb dL_law_438 rfl (lv_at hl 0 rfl) ?_
  refine lv_iload_n hx hb dL_law_439 rfl (lv_at hl 3 rfl) ?_
  refine lv_iconst (v := 2) hx hb dL_law_440 (by decide) ?_
  refine lv_iadd hx hb dL_law_441 ?_
  refine va_sld hx hb hX hbl hbA hS h2 dL_law_442 ?_
  refine kLl (As := [.int (xs (nI i + 1).toNatClampNeg), .int (xs (nI i + 2).toNatClampNeg)]) (rest := []) ⟨hx, hb, hml, hown, hts⟩ (okX5_would l D cy aX AX hDX (xs (nI i + 1).toNatClampNeg) (xs (nI i + 2).toNatClampNeg) S r S1 e1) (cwV 2 hts gL_law_X5_would rfl rfl rfl (by decide +kernel) ⟨Nat.le_of_ble_eq_true rfl, Nat.le_of_ble_eq_true rfl⟩) hK hPX hPM sX hAX hS (va_recv hK.1 hPX (ci := 5) (q := (RX5, TX5, 9)) rfl (atX0 cy aX S)) rfl hl.1 rfl (Nat.le_of_ble_eq_true rfl) dL_law_443 ⟨Nat.le_of_ble_eq_true rfl, Nat.le_of_ble_eq_true rfl⟩ (fun H locs hPX hPM hS => ?_)
  refine lv_aload_n hx hb dL_law_446 rfl (lv_at hl 2 rfl) ?_
  refine lv_aload_n hx hb dL_law_447 rfl (lv_at hl 0 rfl) ?_
  refine lv_iload_n hx hb dL_law_448 rfl (lv_at hl 3 rfl) ?_
  refine lv_iconst (v := 1) hx hb dL_law_449 (by decide) ?_
  refine lv_iadd hx hb dL_law_450 ?_
  refine va_sld hx hb hX hbl hbA hS h1 dL_law_451 ?_
  refine lv_aload_n hx hb dL_law_452 rfl (lv_at hl 0 rfl) ?_
  refine lv_iload_n hx hb dL_law_453 rfl (lv_at hl 3 rfl) ?_
  refine lv_iconst (v := 2) hx hb dL_law_454 (by decide) ?_
  refine lv_iadd hx hb dL_law_455 ?_
  refine va_sld hx hb hX hbl hbA hS h2 dL_law_456 ?_
  refine kLl (As := [.int (xs (nI i + 1).toNatClampNeg), .int (xs (nI i + 2).toNatClampNeg)]) (rest := [.long r]) ⟨hx, hb, hml, hown, hts⟩ (okX6_would l D cy aM AM hDM (xs (nI i + 1).toNatClampNeg) (xs (nI i + 2).toNatClampNeg) T r T1 e2) (cwV 2 hts gL_law_X6_would rfl rfl rfl (by decide +kernel) ⟨Nat.le_of_ble_eq_true rfl, Nat.le_of_ble_eq_true rfl⟩) hK hPM hPX sM hAM hS (va_recv hK.1 hPM (ci := 6) (q := (RX6, TX6, 21)) rfl (atM0 cy aM T)) rfl hl.1 rfl (Nat.le_of_ble_eq_true rfl) dL_law_457 ⟨Nat.le_of_ble_eq_true rfl, Nat.le_of_ble_eq_true rfl⟩ (fun H locs hPM hPX hS => ?_)
  refine W.lcmp hx hb dL_law_460 ?_
  exact lv_if_eq (tgt := 647) hx hb dL_law_461 (by decide) (fun _ => kk S1 T1 H locs hR1 hPX hPM hS) (fun z => absurd ((lg_cmp_eq r r).mpr rfl) z)
set_option maxHeartbeats 4000000 in
set_option maxRecDepth 100000 in
theorem law_conflict {p : Program} {l : Launch} {e : Env} {s : State} {m : MethodId} {below : List Frame} {meth : Method} {c : Code} {b L : Nat} {xs : Nat → Int32} {D : va_G} {cy : Nat → ClassId} {aX aM : Nat → Nat} {AX AM : Nat → Prop} (C : LC p s m c b L xs D cy aX aM AX AM) {i : Nat} (hi : i + 3 ≤ L) {S : XS} {T : MS} (hR : Rel S T) {H : Heap} {locs : List Loc} {ls : Array Slot} (hPX : va_P D vwCl (wX cy aX S) H) (hPM : va_P D vwCl (wM cy aM T) H) (hS : va_S (fun q : Nat => s.heap.size ≤ q) s.heap H locs) (hl : lv_has ls 4 (lcs b aX aM i)) (kk : ∀ (S1 : XS) (T1 : MS) (H1 : Heap) (locs1 : List Loc), Rel S1 T1 → va_P D vwCl (wX cy aX S1) H1 → va_P D vwCl (wM cy aM T1) H1 → va_S (fun q : Nat => s.heap.size ≤ q) s.heap H1 locs1 → W p l e room_1 s m #[Value.ref b] below meth c H1 locs1 87 1932 (lw_Z below #[Value.ref b] s) (F0 m 647 ls [])) : W p l e room_1 s m #[Value.ref b] below meth c H locs 87 1932 (lw_Z below #[Value.ref b] s) (F0 m 466 ls []) := by
  obtain ⟨hx, hb, hml, hown, hts, hX, hbl, hK, hDX, hDM, hAX, hAM, hsep, hL⟩ := C
  have hbA : ¬ (fun q : Nat => s.heap.size ≤ q) b := Nat.not_le.mpr hbl
  have h1 : vp_in (nI i + 1) L := by rw [nI_1]; exact vp_in_nI (by omega) (by omega)
  have h2 : vp_in (nI i + 2) L := by rw [show (2 : Int32) = nI 2 from rfl, nI_add]; exact vp_in_nI (by omega) (by omega)
  have sX : ∀ (k : Nat) (q : Nat × va_E), (wM cy aM T)[k]? = some q → ¬ AX q.1 := fun k q hq z => hsep q.1 z ((hDM T).2 k q hq)
  obtain ⟨r, S1, T1, e1, e2, hR1⟩ := sim_conflict hR (xs (nI i + 1).toNatClampNeg)
  have sM : ∀ (k : Nat) (q : Nat × va_E), (wX cy aX S1)[k]? = some q → ¬ AM q.1 := fun k q hq z => hsep q.1 ((hDX S1).2 k q hq) z
  refine lv_aload_n hx hb dL_law_466 rfl (lv_at hl 1 rfl) ?_
  refine lv_aload_n hx hb dL_law_467 rfl (lv_at hl 0 rfl) ?_
  refine lv_iload_n hx hb dL_law_468 rfl (lv_at hl 3 rfl) ?_
  refine lv_iconst (v := 1) hx hb dL_law_469 (by decide) ?_
  refine lv_iadd hx hb dL_law_470 ?_
  refine va_sld hx hb hX hbl hbA hS h1 dL_law_471 ?_
  refine kLi (As := [.int (xs (nI i + 1).toNatClampNeg)]) (rest := []) ⟨hx, hb, hml, hown, hts⟩ (okX5_conflict l D cy aX AX hDX (xs (nI i + 1).toNatClampNeg) S r S1 e1) (cwV 1 hts gL_law_X5_conflict rfl rfl rfl (by decide +kernel) ⟨Nat.le_of_ble_eq_true rfl, Nat.le_of_ble_eq_true rfl⟩) hK hPX hPM sX hAX hS (va_recv hK.1 hPX (ci := 5) (q := (RX5, TX5, 9)) rfl (atX0 cy aX S)) rfl hl.1 rfl (Nat.le_of_ble_eq_true rfl) dL_law_472 ⟨Nat.le_of_ble_eq_true rfl, Nat.le_of_ble_eq_true rfl⟩ (fun H locs hPX hPM hS => ?_)
  refine lv_aload_n hx hb dL_law_475 rfl (lv_at hl 2 rfl) ?_
  refine lv_aload_n hx hb dL_law_476 rfl (lv_at hl 0 rfl) ?_
  refine lv_iload_n hx hb dL_law_477 rfl (lv_at hl 3 rfl) ?_
  refine lv_iconst (v := 1) hx hb dL_law_478 (by decide) ?_
  refine lv_iadd hx hb dL_law_479 ?_
  refine va_sld hx hb hX hbl hbA hS h1 dL_law_480 ?_
  refine kLi (As := [.int (xs (nI i + 1).toNatClampNeg)]) (rest := [.int r]) ⟨hx, hb, hml, hown, hts⟩ (okX6_conflict l D cy aM AM hDM (xs (nI i + 1).toNatClampNeg) T r T1 e2) (cwV 1 hts gL_law_X6_conflict rfl rfl rfl (by decide +kernel) ⟨Nat.le_of_ble_eq_true rfl, Nat.le_of_ble_eq_true rfl⟩) hK hPM hPX sM hAM hS (va_recv hK.1 hPM (ci := 6) (q := (RX6, TX6, 21)) rfl (atM0 cy aM T)) rfl hl.1 rfl (Nat.le_of_ble_eq_true rfl) dL_law_481 ⟨Nat.le_of_ble_eq_true rfl, Nat.le_of_ble_eq_true rfl⟩ (fun H locs hPM hPX hS => ?_)
  exact lv_icmp_eq (tgt := 647) hx hb dL_law_484 (by decide) (fun _ => kk S1 T1 H locs hR1 hPX hPM hS) (fun z => absurd rfl z)
set_option maxHeartbeats 4000000 in
set_option maxRecDepth 100000 in
theorem law_asked {p : Program} {l : Launch} {e : Env} {s : State} {m : MethodId} {below : List Frame} {meth : Method} {c : Code} {b L : Nat} {xs : Nat → Int32} {D : va_G} {cy : Nat → ClassId} {aX aM : Nat → Nat} {AX AM : Nat → Prop} (C : LC p s m c b L xs D cy aX aM AX AM) {i : Nat} (hi : i + 3 ≤ L) {S : XS} {T : MS} (hR : Rel S T) {H : Heap} {locs : List Loc} {ls : Array Slot} (hPX : va_P D vwCl (wX cy aX S) H) (hPM : va_P D vwCl (wM cy aM T) H) (hS : va_S (fun q : Nat => s.heap.size ≤ q) s.heap H locs) (hl : lv_has ls 4 (lcs b aX aM i)) (kk : ∀ (S1 : XS) (T1 : MS) (H1 : Heap) (locs1 : List Loc), Rel S1 T1 → va_P D vwCl (wX cy aX S1) H1 → va_P D vwCl (wM cy aM T1) H1 → va_S (fun q : Nat => s.heap.size ≤ q) s.heap H1 locs1 → W p l e room_1 s m #[Value.ref b] below meth c H1 locs1 87 1932 (lw_Z below #[Value.ref b] s) (F0 m 647 ls [])) : W p l e room_1 s m #[Value.ref b] below meth c H locs 87 1932 (lw_Z below #[Value.ref b] s) (F0 m 489 ls []) := by
  obtain ⟨hx, hb, hml, hown, hts, hX, hbl, hK, hDX, hDM, hAX, hAM, hsep, hL⟩ := C
  have hbA : ¬ (fun q : Nat => s.heap.size ≤ q) b := Nat.not_le.mpr hbl
  have h1 : vp_in (nI i + 1) L := by rw [nI_1]; exact vp_in_nI (by omega) (by omega)
  have h2 : vp_in (nI i + 2) L := by rw [show (2 : Int32) = nI 2 from rfl, nI_add]; exact vp_in_nI (by omega) (by omega)
  have sX : ∀ (k : Nat) (q : Nat × va_E), (wM cy aM T)[k]? = some q → ¬ AX q.1 := fun k q hq z => hsep q.1 z ((hDM T).2 k q hq)
  obtain ⟨r, S1, T1, e1, e2, hR1⟩ := sim_asked hR 
  have sM : ∀ (k : Nat) (q : Nat × va_E), (wX cy aX S1)[k]? = some q → ¬ AM q.1 := fun k q hq z => hsep q.1 ((hDX S1).2 k q hq) z
  refine lv_aload_n hx hb dL_law_489 rfl (lv_at hl 1 rfl) ?_
  refine kLi (As := []) (rest := []) ⟨hx, hb, hml, hown, hts⟩ (okX5_asked l D cy aX AX hDX  S r S1 e1) (cwV 0 hts gL_law_X5_asked rfl rfl rfl (by decide +kernel) ⟨Nat.le_of_ble_eq_true rfl, Nat.le_of_ble_eq_true rfl⟩) hK hPX hPM sX hAX hS (va_recv hK.1 hPX (ci := 5) (q := (RX5, TX5, 9)) rfl (atX0 cy aX S)) rfl hl.1 rfl (Nat.le_of_ble_eq_true rfl) dL_law_490 ⟨Nat.le_of_ble_eq_true rfl, Nat.le_of_ble_eq_true rfl⟩ (fun H locs hPX hPM hS => ?_)
  refine lv_aload_n hx hb dL_law_493 rfl (lv_at hl 2 rfl) ?_
  refine kLi (As := []) (rest := [.int r]) ⟨hx, hb, hml, hown, hts⟩ (okX6_asked l D cy aM AM hDM  T r T1 e2) (cwV 0 hts gL_law_X6_asked rfl rfl rfl (by decide +kernel) ⟨Nat.le_of_ble_eq_true rfl, Nat.le_of_ble_eq_true rfl⟩) hK hPM hPX sM hAM hS (va_recv hK.1 hPM (ci := 6) (q := (RX6, TX6, 21)) rfl (atM0 cy aM T)) rfl hl.1 rfl (Nat.le_of_ble_eq_true rfl) dL_law_494 ⟨Nat.le_of_ble_eq_true rfl, Nat.le_of_ble_eq_true rfl⟩ (fun H locs hPM hPX hS => ?_)
  exact lv_icmp_eq (tgt := 647) hx hb dL_law_497 (by decide) (fun _ => kk S1 T1 H locs hR1 hPX hPM hS) (fun z => absurd rfl z)
set_option maxHeartbeats 4000000 in
set_option maxRecDepth 100000 in
theorem law_run {p : Program} {l : Launch} {e : Env} {s : State} {m : MethodId} {below : List Frame} {meth : Method} {c : Code} {b L : Nat} {xs : Nat → Int32} {D : va_G} {cy : Nat → ClassId} {aX aM : Nat → Nat} {AX AM : Nat → Prop} (C : LC p s m c b L xs D cy aX aM AX AM) {i : Nat} (hi : i + 3 ≤ L) {S : XS} {T : MS} (hR : Rel S T) {H : Heap} {locs : List Loc} {ls : Array Slot} (hPX : va_P D vwCl (wX cy aX S) H) (hPM : va_P D vwCl (wM cy aM T) H) (hS : va_S (fun q : Nat => s.heap.size ≤ q) s.heap H locs) (hl : lv_has ls 4 (lcs b aX aM i)) (kk : ∀ (S1 : XS) (T1 : MS) (H1 : Heap) (locs1 : List Loc), Rel S1 T1 → va_P D vwCl (wX cy aX S1) H1 → va_P D vwCl (wM cy aM T1) H1 → va_S (fun q : Nat => s.heap.size ≤ q) s.heap H1 locs1 → W p l e room_1 s m #[Value.ref b] below meth c H1 locs1 87 1932 (lw_Z below #[Value.ref b] s) (F0 m 647 ls [])) : W p l e room_1 s m #[Value.ref b] below meth c H locs 87 1932 (lw_Z below #[Value.ref b] s) (F0 m 502 ls []) := by
  obtain ⟨hx, hb, hml, hown, hts, hX, hbl, hK, hDX, hDM, hAX, hAM, hsep, hL⟩ := C
  have hbA : ¬ (fun q : Nat => s.heap.size ≤ q) b := Nat.not_le.mpr hbl
  have h1 : vp_in (nI i + 1) L := by rw [nI_1]; exact vp_in_nI (by omega) (by omega)
  have h2 : vp_in (nI i + 2) L := by rw [show (2 : Int32) = nI 2 from rfl, nI_add]; exact vp_in_nI (by omega) (by omega)
  have sX : ∀ (k : Nat) (q : Nat × va_E), (wM cy aM T)[k]? = some q → ¬ AX q.1 := fun k q hq z => hsep q.1 z ((hDM T).2 k q hq)
  obtain ⟨r, S1, e1, e2, hR1⟩ := sim_run hR (xs (nI i + 1).toNatClampNeg) (xs (nI i + 2).toNatClampNeg)
  have sM : ∀ (k : Nat) (q : Nat × va_E), (wX cy aX S1)[k]? = some q → ¬ AM q.1 := fun k q hq z => hsep q.1 ((hDX S1).2 k q hq) z
  refine lv_aload_n hx hb dL_law_502 rfl (lv_at hl 1 rfl) ?_
  refine lv_aload_n hx hb dL_law_503 rfl (lv_at hl 0 rfl) ?_
  refine lv_iload_n hx hb dL_law_504 rfl (lv_at hl 3 rfl) ?_
  refine lv_iconst (v := 1) hx hb dL_law_505 (by decide) ?_
  refine lv_iadd hx hb dL_law_506 ?_
  refine va_sld hx hb hX hbl hbA hS h1 dL_law_507 ?_
  refine lv_aload_n hx hb dL_law_508 rfl (lv_at hl 0 rfl) ?_
  refine lv_iload_n hx hb dL_law_509 rfl (lv_at hl 3 rfl) ?_
  refine lv_iconst (v := 2) hx hb dL_law_510 (by decide) ?_
  refine lv_iadd hx hb dL_law_511 ?_
  refine va_sld hx hb hX hbl hbA hS h2 dL_law_512 ?_
  refine kLi (As := [.int (xs (nI i + 1).toNatClampNeg), .int (xs (nI i + 2).toNatClampNeg)]) (rest := []) ⟨hx, hb, hml, hown, hts⟩ (okX5_run l D cy aX AX hDX (xs (nI i + 1).toNatClampNeg) (xs (nI i + 2).toNatClampNeg) S r S1 e1) (cwV 2 hts gL_law_X5_run rfl rfl rfl (by decide +kernel) ⟨Nat.le_of_ble_eq_true rfl, Nat.le_of_ble_eq_true rfl⟩) hK hPX hPM sX hAX hS (va_recv hK.1 hPX (ci := 5) (q := (RX5, TX5, 9)) rfl (atX0 cy aX S)) rfl hl.1 rfl (Nat.le_of_ble_eq_true rfl) dL_law_513 ⟨Nat.le_of_ble_eq_true rfl, Nat.le_of_ble_eq_true rfl⟩ (fun H locs hPX hPM hS => ?_)
  refine lv_aload_n hx hb dL_law_516 rfl (lv_at hl 2 rfl) ?_
  refine lv_aload_n hx hb dL_law_517 rfl (lv_at hl 0 rfl) ?_
  refine lv_iload_n hx hb dL_law_518 rfl (lv_at hl 3 rfl) ?_
  refine lv_iconst (v := 1) hx hb dL_law_519 (by decide) ?_
  refine lv_iadd hx hb dL_law_520 ?_
  refine va_sld hx hb hX hbl hbA hS h1 dL_law_521 ?_
  refine lv_aload_n hx hb dL_law_522 rfl (lv_at hl 0 rfl) ?_
  refine lv_iload_n hx hb dL_law_523 rfl (lv_at hl 3 rfl) ?_
  refine lv_iconst (v := 2) hx hb dL_law_524 (by decide) ?_
  refine lv_iadd hx hb dL_law_525 ?_
  refine va_sld hx hb hX hbl hbA hS h2 dL_law_526 ?_
  refine kLi (As := [.int (xs (nI i + 1).toNatClampNeg), .int (xs (nI i + 2).toNatClampNeg)]) (rest := [.int r]) ⟨hx, hb, hml, hown, hts⟩ (okX6_run l D cy aM AM hDM (xs (nI i + 1).toNatClampNeg) (xs (nI i + 2).toNatClampNeg) T r e2) (cwV 2 hts gL_law_X6_run rfl rfl rfl (by decide +kernel) ⟨Nat.le_of_ble_eq_true rfl, Nat.le_of_ble_eq_true rfl⟩) hK hPM hPX sM hAM hS (va_recv hK.1 hPM (ci := 6) (q := (RX6, TX6, 21)) rfl (atM0 cy aM T)) rfl hl.1 rfl (Nat.le_of_ble_eq_true rfl) dL_law_527 ⟨Nat.le_of_ble_eq_true rfl, Nat.le_of_ble_eq_true rfl⟩ (fun H locs hPM hPX hS => ?_)
  exact lv_icmp_eq (tgt := 647) hx hb dL_law_530 (by decide) (fun _ => kk S1 T H locs hR1 hPX hPM hS) (fun z => absurd rfl z)
set_option maxHeartbeats 4000000 in
set_option maxRecDepth 100000 in
theorem law_ofPerson {p : Program} {l : Launch} {e : Env} {s : State} {m : MethodId} {below : List Frame} {meth : Method} {c : Code} {b L : Nat} {xs : Nat → Int32} {D : va_G} {cy : Nat → ClassId} {aX aM : Nat → Nat} {AX AM : Nat → Prop} (C : LC p s m c b L xs D cy aX aM AX AM) {i : Nat} (hi : i + 3 ≤ L) {S : XS} {T : MS} (hR : Rel S T) {H : Heap} {locs : List Loc} {ls : Array Slot} (hPX : va_P D vwCl (wX cy aX S) H) (hPM : va_P D vwCl (wM cy aM T) H) (hS : va_S (fun q : Nat => s.heap.size ≤ q) s.heap H locs) (hl : lv_has ls 4 (lcs b aX aM i)) (kk : ∀ (S1 : XS) (T1 : MS) (H1 : Heap) (locs1 : List Loc), Rel S1 T1 → va_P D vwCl (wX cy aX S1) H1 → va_P D vwCl (wM cy aM T1) H1 → va_S (fun q : Nat => s.heap.size ≤ q) s.heap H1 locs1 → W p l e room_1 s m #[Value.ref b] below meth c H1 locs1 87 1932 (lw_Z below #[Value.ref b] s) (F0 m 647 ls [])) : W p l e room_1 s m #[Value.ref b] below meth c H locs 87 1932 (lw_Z below #[Value.ref b] s) (F0 m 535 ls []) := by
  obtain ⟨hx, hb, hml, hown, hts, hX, hbl, hK, hDX, hDM, hAX, hAM, hsep, hL⟩ := C
  have hbA : ¬ (fun q : Nat => s.heap.size ≤ q) b := Nat.not_le.mpr hbl
  have h1 : vp_in (nI i + 1) L := by rw [nI_1]; exact vp_in_nI (by omega) (by omega)
  have h2 : vp_in (nI i + 2) L := by rw [show (2 : Int32) = nI 2 from rfl, nI_add]; exact vp_in_nI (by omega) (by omega)
  have sX : ∀ (k : Nat) (q : Nat × va_E), (wM cy aM T)[k]? = some q → ¬ AX q.1 := fun k q hq z => hsep q.1 z ((hDM T).2 k q hq)
  obtain ⟨r, S1, T1, e1, e2, hR1⟩ := sim_ofPerson hR (xs (nI i + 1).toNatClampNeg) (xs (nI i + 2).toNatClampNeg)
  have sM : ∀ (k : Nat) (q : Nat × va_E), (wX cy aX S1)[k]? = some q → ¬ AM q.1 := fun k q hq z => hsep q.1 ((hDX S1).2 k q hq) z
  refine lv_aload_n hx hb dL_law_535 rfl (lv_at hl 1 rfl) ?_
  refine lv_aload_n hx hb dL_law_536 rfl (lv_at hl 0 rfl) ?_
  refine lv_iload_n hx hb dL_law_537 rfl (lv_at hl 3 rfl) ?_
  refine lv_iconst (v := 1) hx hb dL_law_538 (by decide) ?_
  refine lv_iadd hx hb dL_law_539 ?_
  refine va_sld hx hb hX hbl hbA hS h1 dL_law_540 ?_
  refine lv_aload_n hx hb dL_law_541 rfl (lv_at hl 0 rfl) ?_
  refine lv_iload_n hx hb dL_law_542 rfl (lv_at hl 3 rfl) ?_
  refine lv_iconst (v := 2) hx hb dL_law_543 (by decide) ?_
  refine lv_iadd hx hb dL_law_544 ?_
  refine va_sld hx hb hX hbl hbA hS h2 dL_law_545 ?_
  refine kLi (As := [.int (xs (nI i + 1).toNatClampNeg), .int (xs (nI i + 2).toNatClampNeg)]) (rest := []) ⟨hx, hb, hml, hown, hts⟩ (okX5_ofPerson l D cy aX AX hDX (xs (nI i + 1).toNatClampNeg) (xs (nI i + 2).toNatClampNeg) S r S1 e1) (cwV 2 hts gL_law_X5_ofPerson rfl rfl rfl (by decide +kernel) ⟨Nat.le_of_ble_eq_true rfl, Nat.le_of_ble_eq_true rfl⟩) hK hPX hPM sX hAX hS (va_recv hK.1 hPX (ci := 5) (q := (RX5, TX5, 9)) rfl (atX0 cy aX S)) rfl hl.1 rfl (Nat.le_of_ble_eq_true rfl) dL_law_546 ⟨Nat.le_of_ble_eq_true rfl, Nat.le_of_ble_eq_true rfl⟩ (fun H locs hPX hPM hS => ?_)
  refine lv_aload_n hx hb dL_law_549 rfl (lv_at hl 2 rfl) ?_
  refine lv_aload_n hx hb dL_law_550 rfl (lv_at hl 0 rfl) ?_
  refine lv_iload_n hx hb dL_law_551 rfl (lv_at hl 3 rfl) ?_
  refine lv_iconst (v := 1) hx hb dL_law_552 (by decide) ?_
  refine lv_iadd hx hb dL_law_553 ?_
  refine va_sld hx hb hX hbl hbA hS h1 dL_law_554 ?_
  refine lv_aload_n hx hb dL_law_555 rfl (lv_at hl 0 rfl) ?_
  refine lv_iload_n hx hb dL_law_556 rfl (lv_at hl 3 rfl) ?_
  refine lv_iconst (v := 2) hx hb dL_law_557 (by decide) ?_
  refine lv_iadd hx hb dL_law_558 ?_
  refine va_sld hx hb hX hbl hbA hS h2 dL_law_559 ?_
  refine kLi (As := [.int (xs (nI i + 1).toNatClampNeg), .int (xs (nI i + 2).toNatClampNeg)]) (rest := [.int r]) ⟨hx, hb, hml, hown, hts⟩ (okX6_ofPerson l D cy aM AM hDM (xs (nI i + 1).toNatClampNeg) (xs (nI i + 2).toNatClampNeg) T r T1 e2) (cwV 2 hts gL_law_X6_ofPerson rfl rfl rfl (by decide +kernel) ⟨Nat.le_of_ble_eq_true rfl, Nat.le_of_ble_eq_true rfl⟩) hK hPM hPX sM hAM hS (va_recv hK.1 hPM (ci := 6) (q := (RX6, TX6, 21)) rfl (atM0 cy aM T)) rfl hl.1 rfl (Nat.le_of_ble_eq_true rfl) dL_law_560 ⟨Nat.le_of_ble_eq_true rfl, Nat.le_of_ble_eq_true rfl⟩ (fun H locs hPM hPX hS => ?_)
  exact lv_icmp_eq (tgt := 647) hx hb dL_law_563 (by decide) (fun _ => kk S1 T1 H locs hR1 hPX hPM hS) (fun z => absurd rfl z)
set_option maxHeartbeats 4000000 in
set_option maxRecDepth 100000 in
theorem law_rank {p : Program} {l : Launch} {e : Env} {s : State} {m : MethodId} {below : List Frame} {meth : Method} {c : Code} {b L : Nat} {xs : Nat → Int32} {D : va_G} {cy : Nat → ClassId} {aX aM : Nat → Nat} {AX AM : Nat → Prop} (C : LC p s m c b L xs D cy aX aM AX AM) {i : Nat} (hi : i + 3 ≤ L) {S : XS} {T : MS} (hR : Rel S T) {H : Heap} {locs : List Loc} {ls : Array Slot} (hPX : va_P D vwCl (wX cy aX S) H) (hPM : va_P D vwCl (wM cy aM T) H) (hS : va_S (fun q : Nat => s.heap.size ≤ q) s.heap H locs) (hl : lv_has ls 4 (lcs b aX aM i)) (kk : ∀ (S1 : XS) (T1 : MS) (H1 : Heap) (locs1 : List Loc), Rel S1 T1 → va_P D vwCl (wX cy aX S1) H1 → va_P D vwCl (wM cy aM T1) H1 → va_S (fun q : Nat => s.heap.size ≤ q) s.heap H1 locs1 → W p l e room_1 s m #[Value.ref b] below meth c H1 locs1 87 1932 (lw_Z below #[Value.ref b] s) (F0 m 647 ls [])) : W p l e room_1 s m #[Value.ref b] below meth c H locs 87 1932 (lw_Z below #[Value.ref b] s) (F0 m 568 ls []) := by
  obtain ⟨hx, hb, hml, hown, hts, hX, hbl, hK, hDX, hDM, hAX, hAM, hsep, hL⟩ := C
  have hbA : ¬ (fun q : Nat => s.heap.size ≤ q) b := Nat.not_le.mpr hbl
  have h1 : vp_in (nI i + 1) L := by rw [nI_1]; exact vp_in_nI (by omega) (by omega)
  have h2 : vp_in (nI i + 2) L := by rw [show (2 : Int32) = nI 2 from rfl, nI_add]; exact vp_in_nI (by omega) (by omega)
  have sX : ∀ (k : Nat) (q : Nat × va_E), (wM cy aM T)[k]? = some q → ¬ AX q.1 := fun k q hq z => hsep q.1 z ((hDM T).2 k q hq)
  obtain ⟨r, S1, T1, e1, e2, hR1⟩ := sim_rank hR (xs (nI i + 1).toNatClampNeg)
  have sM : ∀ (k : Nat) (q : Nat × va_E), (wX cy aX S1)[k]? = some q → ¬ AM q.1 := fun k q hq z => hsep q.1 ((hDX S1).2 k q hq) z
  refine lv_aload_n hx hb dL_law_568 rfl (lv_at hl 1 rfl) ?_
  refine lv_aload_n hx hb dL_law_569 rfl (lv_at hl 0 rfl) ?_
  refine lv_iload_n hx hb dL_law_570 rfl (lv_at hl 3 rfl) ?_
  refine lv_iconst (v := 1) hx hb dL_law_571 (by decide) ?_
  refine lv_iadd hx hb dL_law_572 ?_
  refine va_sld hx hb hX hbl hbA hS h1 dL_law_573 ?_
  refine kLi (As := [.int (xs (nI i + 1).toNatClampNeg)]) (rest := []) ⟨hx, hb, hml, hown, hts⟩ (okX5_rank l D cy aX AX hDX (xs (nI i + 1).toNatClampNeg) S r S1 e1) (cwV 1 hts gL_law_X5_rank rfl rfl rfl (by decide +kernel) ⟨Nat.le_of_ble_eq_true rfl, Nat.le_of_ble_eq_true rfl⟩) hK hPX hPM sX hAX hS (va_recv hK.1 hPX (ci := 5) (q := (RX5, TX5, 9)) rfl (atX0 cy aX S)) rfl hl.1 rfl (Nat.le_of_ble_eq_true rfl) dL_law_574 ⟨Nat.le_of_ble_eq_true rfl, Nat.le_of_ble_eq_true rfl⟩ (fun H locs hPX hPM hS => ?_)
  refine lv_aload_n hx hb dL_law_577 rfl (lv_at hl 2 rfl) ?_
  refine lv_aload_n hx hb dL_law_578 rfl (lv_at hl 0 rfl) ?_
  refine lv_iload_n hx hb dL_law_579 rfl (lv_at hl 3 rfl) ?_
  refine lv_iconst (v := 1) hx hb dL_law_580 (by decide) ?_
  refine lv_iadd hx hb dL_law_581 ?_
  refine va_sld hx hb hX hbl hbA hS h1 dL_law_582 ?_
  refine kLi (As := [.int (xs (nI i + 1).toNatClampNeg)]) (rest := [.int r]) ⟨hx, hb, hml, hown, hts⟩ (okX6_rank l D cy aM AM hDM (xs (nI i + 1).toNatClampNeg) T r T1 e2) (cwV 1 hts gL_law_X6_rank rfl rfl rfl (by decide +kernel) ⟨Nat.le_of_ble_eq_true rfl, Nat.le_of_ble_eq_true rfl⟩) hK hPM hPX sM hAM hS (va_recv hK.1 hPM (ci := 6) (q := (RX6, TX6, 21)) rfl (atM0 cy aM T)) rfl hl.1 rfl (Nat.le_of_ble_eq_true rfl) dL_law_583 ⟨Nat.le_of_ble_eq_true rfl, Nat.le_of_ble_eq_true rfl⟩ (fun H locs hPM hPX hS => ?_)
  exact lv_icmp_eq (tgt := 647) hx hb dL_law_586 (by decide) (fun _ => kk S1 T1 H locs hR1 hPX hPM hS) (fun z => absurd rfl z)
set_option maxHeartbeats 4000000 in
set_option maxRecDepth 100000 in
theorem law_written {p : Program} {l : Launch} {e : Env} {s : State} {m : MethodId} {below : List Frame} {meth : Method} {c : Code} {b L : Nat} {xs : Nat → Int32} {D : va_G} {cy : Nat → ClassId} {aX aM : Nat → Nat} {AX AM : Nat → Prop} (C : LC p s m c b L xs D cy aX aM AX AM) {i : Nat} (hi : i + 3 ≤ L) {S : XS} {T : MS} (hR : Rel S T) {H : Heap} {locs : List Loc} {ls : Array Slot} (hPX : va_P D vwCl (wX cy aX S) H) (hPM : va_P D vwCl (wM cy aM T) H) (hS : va_S (fun q : Nat => s.heap.size ≤ q) s.heap H locs) (hl : lv_has ls 4 (lcs b aX aM i)) (kk : ∀ (S1 : XS) (T1 : MS) (H1 : Heap) (locs1 : List Loc), Rel S1 T1 → va_P D vwCl (wX cy aX S1) H1 → va_P D vwCl (wM cy aM T1) H1 → va_S (fun q : Nat => s.heap.size ≤ q) s.heap H1 locs1 → W p l e room_1 s m #[Value.ref b] below meth c H1 locs1 87 1932 (lw_Z below #[Value.ref b] s) (F0 m 647 ls [])) : W p l e room_1 s m #[Value.ref b] below meth c H locs 87 1932 (lw_Z below #[Value.ref b] s) (F0 m 591 ls []) := by
  obtain ⟨hx, hb, hml, hown, hts, hX, hbl, hK, hDX, hDM, hAX, hAM, hsep, hL⟩ := C
  have hbA : ¬ (fun q : Nat => s.heap.size ≤ q) b := Nat.not_le.mpr hbl
  have h1 : vp_in (nI i + 1) L := by rw [nI_1]; exact vp_in_nI (by omega) (by omega)
  have h2 : vp_in (nI i + 2) L := by rw [show (2 : Int32) = nI 2 from rfl, nI_add]; exact vp_in_nI (by omega) (by omega)
  have sX : ∀ (k : Nat) (q : Nat × va_E), (wM cy aM T)[k]? = some q → ¬ AX q.1 := fun k q hq z => hsep q.1 z ((hDM T).2 k q hq)
  obtain ⟨r, S1, T1, e1, e2, hR1⟩ := sim_written hR (xs (nI i + 1).toNatClampNeg) (xs (nI i + 2).toNatClampNeg)
  have sM : ∀ (k : Nat) (q : Nat × va_E), (wX cy aX S1)[k]? = some q → ¬ AM q.1 := fun k q hq z => hsep q.1 ((hDX S1).2 k q hq) z
  refine lv_aload_n hx hb dL_law_591 rfl (lv_at hl 1 rfl) ?_
  refine lv_aload_n hx hb dL_law_592 rfl (lv_at hl 0 rfl) ?_
  refine lv_iload_n hx hb dL_law_593 rfl (lv_at hl 3 rfl) ?_
  refine lv_iconst (v := 1) hx hb dL_law_594 (by decide) ?_
  refine lv_iadd hx hb dL_law_595 ?_
  refine va_sld hx hb hX hbl hbA hS h1 dL_law_596 ?_
  refine lv_aload_n hx hb dL_law_597 rfl (lv_at hl 0 rfl) ?_
  refine lv_iload_n hx hb dL_law_598 rfl (lv_at hl 3 rfl) ?_
  refine lv_iconst (v := 2) hx hb dL_law_599 (by decide) ?_
  refine lv_iadd hx hb dL_law_600 ?_
  refine va_sld hx hb hX hbl hbA hS h2 dL_law_601 ?_
  refine kLi (As := [.int (xs (nI i + 1).toNatClampNeg), .int (xs (nI i + 2).toNatClampNeg)]) (rest := []) ⟨hx, hb, hml, hown, hts⟩ (okX5_written l D cy aX AX hDX (xs (nI i + 1).toNatClampNeg) (xs (nI i + 2).toNatClampNeg) S r S1 e1) (cwV 2 hts gL_law_X5_written rfl rfl rfl (by decide +kernel) ⟨Nat.le_of_ble_eq_true rfl, Nat.le_of_ble_eq_true rfl⟩) hK hPX hPM sX hAX hS (va_recv hK.1 hPX (ci := 5) (q := (RX5, TX5, 9)) rfl (atX0 cy aX S)) rfl hl.1 rfl (Nat.le_of_ble_eq_true rfl) dL_law_602 ⟨Nat.le_of_ble_eq_true rfl, Nat.le_of_ble_eq_true rfl⟩ (fun H locs hPX hPM hS => ?_)
  refine lv_aload_n hx hb dL_law_605 rfl (lv_at hl 2 rfl) ?_
  refine lv_aload_n hx hb dL_law_606 rfl (lv_at hl 0 rfl) ?_
  refine lv_iload_n hx hb dL_law_607 rfl (lv_at hl 3 rfl) ?_
  refine lv_iconst (v := 1) hx hb dL_law_608 (by decide) ?_
  refine lv_iadd hx hb dL_law_609 ?_
  refine va_sld hx hb hX hbl hbA hS h1 dL_law_610 ?_
  refine lv_aload_n hx hb dL_law_611 rfl (lv_at hl 0 rfl) ?_
  refine lv_iload_n hx hb dL_law_612 rfl (lv_at hl 3 rfl) ?_
  refine lv_iconst (v := 2) hx hb dL_law_613 (by decide) ?_
  refine lv_iadd hx hb dL_law_614 ?_
  refine va_sld hx hb hX hbl hbA hS h2 dL_law_615 ?_
  refine kLi (As := [.int (xs (nI i + 1).toNatClampNeg), .int (xs (nI i + 2).toNatClampNeg)]) (rest := [.int r]) ⟨hx, hb, hml, hown, hts⟩ (okX6_written l D cy aM AM hDM (xs (nI i + 1).toNatClampNeg) (xs (nI i + 2).toNatClampNeg) T r T1 e2) (cwV 2 hts gL_law_X6_written rfl rfl rfl (by decide +kernel) ⟨Nat.le_of_ble_eq_true rfl, Nat.le_of_ble_eq_true rfl⟩) hK hPM hPX sM hAM hS (va_recv hK.1 hPM (ci := 6) (q := (RX6, TX6, 21)) rfl (atM0 cy aM T)) rfl hl.1 rfl (Nat.le_of_ble_eq_true rfl) dL_law_616 ⟨Nat.le_of_ble_eq_true rfl, Nat.le_of_ble_eq_true rfl⟩ (fun H locs hPM hPX hS => ?_)
  exact lv_icmp_eq (tgt := 647) hx hb dL_law_619 (by decide) (fun _ => kk S1 T1 H locs hR1 hPX hPM hS) (fun z => absurd rfl z)
set_option maxHeartbeats 4000000 in
set_option maxRecDepth 100000 in
theorem law_many {p : Program} {l : Launch} {e : Env} {s : State} {m : MethodId} {below : List Frame} {meth : Method} {c : Code} {b L : Nat} {xs : Nat → Int32} {D : va_G} {cy : Nat → ClassId} {aX aM : Nat → Nat} {AX AM : Nat → Prop} (C : LC p s m c b L xs D cy aX aM AX AM) {i : Nat} (hi : i + 3 ≤ L) {S : XS} {T : MS} (hR : Rel S T) {H : Heap} {locs : List Loc} {ls : Array Slot} (hPX : va_P D vwCl (wX cy aX S) H) (hPM : va_P D vwCl (wM cy aM T) H) (hS : va_S (fun q : Nat => s.heap.size ≤ q) s.heap H locs) (hl : lv_has ls 4 (lcs b aX aM i)) (kk : ∀ (S1 : XS) (T1 : MS) (H1 : Heap) (locs1 : List Loc), Rel S1 T1 → va_P D vwCl (wX cy aX S1) H1 → va_P D vwCl (wM cy aM T1) H1 → va_S (fun q : Nat => s.heap.size ≤ q) s.heap H1 locs1 → W p l e room_1 s m #[Value.ref b] below meth c H1 locs1 87 1932 (lw_Z below #[Value.ref b] s) (F0 m 647 ls [])) : W p l e room_1 s m #[Value.ref b] below meth c H locs 87 1932 (lw_Z below #[Value.ref b] s) (F0 m 624 ls []) := by
  obtain ⟨hx, hb, hml, hown, hts, hX, hbl, hK, hDX, hDM, hAX, hAM, hsep, hL⟩ := C
  have hbA : ¬ (fun q : Nat => s.heap.size ≤ q) b := Nat.not_le.mpr hbl
  have h1 : vp_in (nI i + 1) L := by rw [nI_1]; exact vp_in_nI (by omega) (by omega)
  have h2 : vp_in (nI i + 2) L := by rw [show (2 : Int32) = nI 2 from rfl, nI_add]; exact vp_in_nI (by omega) (by omega)
  have sX : ∀ (k : Nat) (q : Nat × va_E), (wM cy aM T)[k]? = some q → ¬ AX q.1 := fun k q hq z => hsep q.1 z ((hDM T).2 k q hq)
  obtain ⟨r, S1, T1, e1, e2, hR1⟩ := sim_many hR (xs (nI i + 1).toNatClampNeg)
  have sM : ∀ (k : Nat) (q : Nat × va_E), (wX cy aX S1)[k]? = some q → ¬ AM q.1 := fun k q hq z => hsep q.1 ((hDX S1).2 k q hq) z
  refine lv_aload_n hx hb dL_law_624 rfl (lv_at hl 1 rfl) ?_
  refine lv_aload_n hx hb dL_law_625 rfl (lv_at hl 0 rfl) ?_
  refine lv_iload_n hx hb dL_law_626 rfl (lv_at hl 3 rfl) ?_
  refine lv_iconst (v := 1) hx hb dL_law_627 (by decide) ?_
  refine lv_iadd hx hb dL_law_628 ?_
  refine va_sld hx hb hX hbl hbA hS h1 dL_law_629 ?_
  refine kLi (As := [.int (xs (nI i + 1).toNatClampNeg)]) (rest := []) ⟨hx, hb, hml, hown, hts⟩ (okX5_many l D cy aX AX hDX (xs (nI i + 1).toNatClampNeg) S r S1 e1) (cwV 1 hts gL_law_X5_many rfl rfl rfl (by decide +kernel) ⟨Nat.le_of_ble_eq_true rfl, Nat.le_of_ble_eq_true rfl⟩) hK hPX hPM sX hAX hS (va_recv hK.1 hPX (ci := 5) (q := (RX5, TX5, 9)) rfl (atX0 cy aX S)) rfl hl.1 rfl (Nat.le_of_ble_eq_true rfl) dL_law_630 ⟨Nat.le_of_ble_eq_true rfl, Nat.le_of_ble_eq_true rfl⟩ (fun H locs hPX hPM hS => ?_)
  refine lv_aload_n hx hb dL_law_633 rfl (lv_at hl 2 rfl) ?_
  refine lv_aload_n hx hb dL_law_634 rfl (lv_at hl 0 rfl) ?_
  refine lv_iload_n hx hb dL_law_635 rfl (lv_at hl 3 rfl) ?_
  refine lv_iconst (v := 1) hx hb dL_law_636 (by decide) ?_
  refine lv_iadd hx hb dL_law_637 ?_
  refine va_sld hx hb hX hbl hbA hS h1 dL_law_638 ?_
  refine kLi (As := [.int (xs (nI i + 1).toNatClampNeg)]) (rest := [.int r]) ⟨hx, hb, hml, hown, hts⟩ (okX6_many l D cy aM AM hDM (xs (nI i + 1).toNatClampNeg) T r T1 e2) (cwV 1 hts gL_law_X6_many rfl rfl rfl (by decide +kernel) ⟨Nat.le_of_ble_eq_true rfl, Nat.le_of_ble_eq_true rfl⟩) hK hPM hPX sM hAM hS (va_recv hK.1 hPM (ci := 6) (q := (RX6, TX6, 21)) rfl (atM0 cy aM T)) rfl hl.1 rfl (Nat.le_of_ble_eq_true rfl) dL_law_639 ⟨Nat.le_of_ble_eq_true rfl, Nat.le_of_ble_eq_true rfl⟩ (fun H locs hPM hPX hS => ?_)
  exact lv_icmp_eq (tgt := 647) hx hb dL_law_642 (by decide) (fun _ => kk S1 T1 H locs hR1 hPX hPM hS) (fun z => absurd rfl z)
