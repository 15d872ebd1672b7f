/-! the law from its entry -/
theorem va_P_l {D : va_G} {cl : List vw_C} {a b : va_W} {H : Heap} (h : va_P D cl (a ++ b) H) : va_P D cl a H := fun k q hk => h k q (by rw [List.getElem?_append_left (List.getElem?_eq_some_iff.mp hk).1]; exact hk)
theorem va_P_r {D : va_G} {cl : List vw_C} {a b : va_W} {H : Heap} (h : va_P D cl (a ++ b) H) : va_P D cl b H := fun k q hk => h (a.length + k) q (by rw [ap_get]; exact hk)
theorem va_D_l {A : Nat → Prop} {a b : va_W} (h : va_D A (a ++ b)) : va_D A a := by
  have key : ∀ (k : Nat) (q : Nat × va_E), a[k]? = some q → (a ++ b)[k]? = some q := fun k q hk => by rw [List.getElem?_append_left (List.getElem?_eq_some_iff.mp hk).1]; exact hk
  exact ⟨fun i j p q hp hq e => h.1 i j p q (key i p hp) (key j q hq) e, fun k q hk => h.2 k q (key k q hk)⟩
theorem va_D_r {A : Nat → Prop} {a b : va_W} (h : va_D A (a ++ b)) : va_D A b := by
  have key : ∀ (k : Nat) (q : Nat × va_E), b[k]? = some q → (a ++ b)[a.length + k]? = some q := fun k q hk => by rw [ap_get]; exact hk
  exact ⟨fun i j p q hp hq e => by have := h.1 _ _ p q (key i p hp) (key j q hq) e; omega, fun k q hk => h.2 _ q (key k q hk)⟩
theorem va_D_x {A : Nat → Prop} {a b : va_W} (h : va_D A (a ++ b)) {q : Nat} (h1 : adr a q) (h2 : adr b q) : False := by
  obtain ⟨i, e1, hi, r1⟩ := adr_ex h1
  obtain ⟨j, e2, hj, r2⟩ := adr_ex h2
  have hlt := (List.getElem?_eq_some_iff.mp hi).1
  have := h.1 i (a.length + j) e1 e2 (by rw [List.getElem?_append_left hlt]; exact hi) (by rw [ap_get]; exact hj) (by rw [r1, r2])
  omega
set_option maxHeartbeats 4000000 in
set_option maxRecDepth 100000 in
theorem whole_start {p : Program} {e : Env} {s : State} {m : MethodId} {below : List Frame} {meth : Method} {c : Code} (l : Launch) (hflags : l.flags = flags0) {b L : Nat} {xs : Nat → Int32} (hL : L ≤ 1536) (C0 : lw_At p s m meth c b L xs) : W p l e room_1 s m #[Value.ref b] below meth c s.heap [] 0 0 (lw_Z below #[Value.ref b] s) (entryFrame m ([Value.ref b] : List Value).toArray 4) := by
  obtain ⟨hx, hb, hr, hml, hown, hts, hX, hbl, hlocks, hgv⟩ := id C0
  have hown : s.vm.findClass RL = some m.cls := hown
  have htsL : ∀ w ∈ wsL_law, w.before #[Value.ref b] s = true := fun w hw => hts w (wsL_law_in w hw)
  have hA : ∀ q : Nat, s.heap.size ≤ q → (fun q : Nat => s.heap.size ≤ q) q := fun _ h => h
  have hi0 := (hts (Cond.instantiable RX0 9) (List.mem_of_getElem? (i := 178) (by decide +kernel)))
  obtain ⟨c0, iS0, hKn0⟩ := u_known (C := RX0) (T := TX0) (N := 9) (n := 9) hts inX0 hi0
  have hi1 := (hts (Cond.instantiable RX1 14) (List.mem_of_getElem? (i := 115) (by decide +kernel)))
  obtain ⟨c1, iS1, hKn1⟩ := u_known (C := RX1) (T := TX1) (N := 14) (n := 14) hts inX1 hi1
  have hi2 := (hts (Cond.instantiable RX2 2) (List.mem_of_getElem? (i := 81) (by decide +kernel)))
  obtain ⟨c2, iS2, hKn2⟩ := u_known (C := RX2) (T := TX2) (N := 2) (n := 2) hts inX2 hi2
  have hi3 := (hts (Cond.instantiable RX3 3) (List.mem_of_getElem? (i := 108) (by decide +kernel)))
  obtain ⟨c3, iS3, hKn3⟩ := u_known (C := RX3) (T := TX3) (N := 3) (n := 3) hts inX3 hi3
  have hi4 := (hts (Cond.instantiable RX4 2) (List.mem_of_getElem? (i := 95) (by decide +kernel)))
  obtain ⟨c4, iS4, hKn4⟩ := u_known (C := RX4) (T := TX4) (N := 2) (n := 2) hts inX4 hi4
  have hi5 := (hts (Cond.instantiable RX5 9) (List.mem_of_getElem? (i := 73) (by decide +kernel)))
  obtain ⟨c5, iS5, hKn5⟩ := u_known (C := RX5) (T := TX5) (N := 9) (n := 9) hts inX5 hi5
  have hi6 := (hts (Cond.instantiable RX6 21) (List.mem_of_getElem? (i := 714) (by decide +kernel)))
  obtain ⟨c6, iS6, hKn6⟩ := u_known (C := RX6) (T := TX6) (N := 21) (n := 21) hts inX6 hi6
  have ha0 := (hts (Cond.arrayClass .int) (List.mem_of_getElem? (i := 93) (by decide +kernel)))
  have ha1 := (hts (Cond.arrayClass .long) (List.mem_of_getElem? (i := 212) (by decide +kernel)))
  have ha2 := (hts (Cond.arrayClass .boolean) (List.mem_of_getElem? (i := 211) (by decide +kernel)))
  have ha3 := (hts (Cond.arrayOver (.object PAR)) (List.mem_of_getElem? (i := 114) (by decide +kernel)))
  obtain ⟨y0, k0, p0, f01, f02, f03⟩ := Cond.arrayClass_spec ha0
  obtain ⟨y1, k1, p1, f11, f12, f13⟩ := Cond.arrayClass_spec ha1
  obtain ⟨y2, k2, p2, f21, f22, f23⟩ := Cond.arrayClass_spec ha2
  obtain ⟨p3, y3, k3, f31, -, f32, f33, f34⟩ := Cond.arrayOver_spec ha3
  have hO : va_AO PAR s := va_AO.of ha3
  obtain ⟨cy, e0, e1, e2, e3⟩ : ∃ cy : Nat → ClassId, cy 0 = y0 ∧ cy 1 = y1 ∧ cy 2 = y2 ∧ cy 3 = y3 := ⟨fun k => if k = 0 then y0 else if k = 1 then y1 else if k = 2 then y2 else y3, rfl, rfl, rfl, rfl⟩
  obtain ⟨D, hKc⟩ : ∃ D : va_G, ∀ (k : Nat) (q : vw_C), vwCl[k]? = some q → u_Kn s q.1 q.2.1 q.2.2 (D.1 k) (D.2 k) := by
    refine ⟨(fun k => [c0, c1, c2, c3, c4, c5, c6].getD k c0, fun k => [iS0, iS1, iS2, iS3, iS4, iS5, iS6].getD k iS0), ?_⟩
    intro k q hq
    match k, hq with
    | 0, hq => cases hq; exact hKn0
    | 1, hq => cases hq; exact hKn1
    | 2, hq => cases hq; exact hKn2
    | 3, hq => cases hq; exact hKn3
    | 4, hq => cases hq; exact hKn4
    | 5, hq => cases hq; exact hKn5
    | 6, hq => cases hq; exact hKn6
    | k + 7, hq => simp [vwCl] at hq
  have hKA : va_K D vwCl (tysK cy) s := by
    refine ⟨hKc, ?_⟩
    intro k q hq
    match k, hq with
    | 0, hq => cases hq; rw [e0]; exact ⟨fun n z => ⟨fun k h => (by cases h), k0, f02, p0, f03⟩, f01⟩
    | 1, hq => cases hq; rw [e1]; exact ⟨fun n z => ⟨fun k h => (by cases h), k1, f12, p1, f13⟩, f11⟩
    | 2, hq => cases hq; rw [e2]; exact ⟨fun n z => ⟨fun k h => (by cases h), k2, f22, p2, f23⟩, f21⟩
    | 3, hq => cases hq; rw [e3]; exact ⟨fun n z => ⟨fun k h => (by cases h), k3, f32, p3, f33⟩, k3, p3, f32, f33, f31, f34⟩
    | k + 4, hq => simp [tysK] at hq
  have nw0 : va_Nw (.methodLinkNest RX2 23 yX5_isWithin RX5) s := va_Nw.of rfl (hts (Cond.methodLinkNest RX2 23 yX5_isWithin RX5) (List.mem_of_getElem? (i := 252) (by decide +kernel)))
  have nw1 : va_Nw (.methodLinkNest RX2 19 yX5_bitOf RX5) s := va_Nw.of rfl (hts (Cond.methodLinkNest RX2 19 yX5_bitOf RX5) (List.mem_of_getElem? (i := 257) (by decide +kernel)))
  have nw2 : va_Nw (.methodLinkNest RX1 86 yX5_bitOf RX5) s := va_Nw.of rfl (hts (Cond.methodLinkNest RX1 86 yX5_bitOf RX5) (List.mem_of_getElem? (i := 285) (by decide +kernel)))
  have nw3 : va_Nw (.methodLinkNest RX0 42 yX5_isWithin RX5) s := va_Nw.of rfl (hts (Cond.methodLinkNest RX0 42 yX5_isWithin RX5) (List.mem_of_getElem? (i := 332) (by decide +kernel)))
  have nw4 : va_Nw (.methodLinkNest RX0 54 yX5_bitOf RX5) s := va_Nw.of rfl (hts (Cond.methodLinkNest RX0 54 yX5_bitOf RX5) (List.mem_of_getElem? (i := 345) (by decide +kernel)))
  have nw5 : va_Nw (.methodLinkNest RX4 19 yX5_isWithin RX5) s := va_Nw.of rfl (hts (Cond.methodLinkNest RX4 19 yX5_isWithin RX5) (List.mem_of_getElem? (i := 372) (by decide +kernel)))
  have nw6 : va_Nw (.methodLinkNest RX1 82 yX5_isWithin RX5) s := va_Nw.of rfl (hts (Cond.methodLinkNest RX1 82 yX5_isWithin RX5) (List.mem_of_getElem? (i := 432) (by decide +kernel)))
  have hK : KX D cy s := ⟨hKA, nw0, nw1, nw2, nw3, nw4, nw5, nw6⟩
  have hS : va_S (fun q : Nat => s.heap.size ≤ q) s.heap s.heap [] := va_S.rf
  have hP : va_P D vwCl [] s.heap := fun k q h => by simp at h
  have hD : va_D (fun q : Nat => s.heap.size ≤ q) [] := ⟨fun i j p q h => by simp at h, fun k q h => by simp at h⟩
  have hl := lv_entry ([.ref b]) (n := 4) (Nat.le_of_ble_eq_true rfl)
  rw [lg_entry_eq]
  generalize (lg_sl ([.ref b]) ++ List.replicate (4 - (lg_sl ([.ref b])).length) Slot.unset).toArray = ls at hl ⊢
  have hl : lv_has ls 4 [(0, .ref b)] := hl
  refine nwO (ci := 5) (fs := [.null, .null, .null, .null, .null, .null, .null, .int 0, .int 0]) (C := RX5) (T := TX5) (N := 9) hx hb hts inX5 tyX5 tyX5_ok hown (htsL (Cond.classLink RL 7 RX5) (List.mem_of_getElem? (i := 0) rfl)) (htsL (Cond.instantiable RX5 9) (List.mem_of_getElem? (i := 1) rfl)) (htsL (Cond.initialized RX5) (List.mem_of_getElem? (i := 2) rfl)) hK hP hD hS hA rfl (by decide +kernel) (Nat.le_of_ble_eq_true rfl) (Nat.le_of_ble_eq_true rfl) dL_law_0 (fun q0 H hP hD hS => ?_)
  refine lv_dup hx hb dL_law_3 rfl ?_
  refine kNw (As := []) (rest := [.ref q0]) ⟨hx, hb, hml, hown, htsL⟩ (nwWhoSpeaks l D cy (fun q : Nat => s.heap.size ≤ q) q0 hD) (cwI 0 htsL gL_law_X5_init rfl rfl rfl (htsL (Cond.initialized RX5) (List.mem_of_getElem? (i := 2) rfl)) (htsL (Cond.methodLink RL 9 yX5_init) (List.mem_of_getElem? (i := 6) rfl)) (htsL (Cond.instanceMethod yX5_init) (List.mem_of_getElem? (i := 7) rfl)) rfl (by decide +kernel) ⟨Nat.le_of_ble_eq_true rfl, Nat.le_of_ble_eq_true rfl⟩) hK hO hP hS hA rfl hl.1 rfl (Nat.le_of_ble_eq_true rfl) dL_law_4 ⟨Nat.le_of_ble_eq_true rfl, Nat.le_of_ble_eq_true rfl⟩ (fun u5 H locs hP hD hS => ?_)
  obtain ⟨aX, hu5⟩ := u5
  subst hu5
  refine lv_astore_n (lv' := [(1, .ref (aX 0)), (0, .ref b)]) hx hb dL_law_7 rfl hl (by decide) rfl (fun ls hl => ?_)
  refine nwO (ci := 6) (fs := [.null, .int 0, .int 0, .null, .int 0, .int 0, .null, .null, .null, .null, .null, .null, .int 0, .null, .null, .null, .null, .null, .null, .null, .null]) (C := RX6) (T := TX6) (N := 21) hx hb hts inX6 tyX6 tyX6_ok hown (htsL (Cond.classLink RL 10 RX6) (List.mem_of_getElem? (i := 3) rfl)) (htsL (Cond.instantiable RX6 21) (List.mem_of_getElem? (i := 4) rfl)) (htsL (Cond.initialized RX6) (List.mem_of_getElem? (i := 5) rfl)) hK hP hD hS hA rfl (by decide +kernel) (Nat.le_of_ble_eq_true rfl) (Nat.le_of_ble_eq_true rfl) dL_law_8 (fun q8 H hP hD hS => ?_)
  refine lv_dup hx hb dL_law_11 rfl ?_
  refine kNw (As := []) (rest := [.ref q8]) ⟨hx, hb, hml, hown, htsL⟩ (nwModel l D cy (fun q : Nat => s.heap.size ≤ q) (wX cy aX S0) q8 hD) (cwI 0 htsL gL_law_X6_init rfl rfl rfl (htsL (Cond.initialized RX6) (List.mem_of_getElem? (i := 5) rfl)) (htsL (Cond.methodLink RL 12 yX6_init) (List.mem_of_getElem? (i := 93) rfl)) (htsL (Cond.instanceMethod yX6_init) (List.mem_of_getElem? (i := 94) rfl)) rfl (by decide +kernel) ⟨Nat.le_of_ble_eq_true rfl, Nat.le_of_ble_eq_true rfl⟩) hK hO hP hS hA rfl hl.1 rfl (Nat.le_of_ble_eq_true rfl) dL_law_12 ⟨Nat.le_of_ble_eq_true rfl, Nat.le_of_ble_eq_true rfl⟩ (fun u6 H locs hP hD hS => ?_)
  obtain ⟨⟨aM, f⟩, hu6, hf⟩ := u6
  have hu6 : aM 0 = q8 := hu6
  have hf : ∀ p, p < 8 → f p = -9 := hf
  have hP : va_P D vwCl (wX cy aX S0 ++ wM cy aM (T0 f)) H := hP
  have hD : va_D (fun q : Nat => s.heap.size ≤ q) (wX cy aX S0 ++ wM cy aM (T0 f)) := hD
  subst hu6
  refine lv_astore_n (lv' := [(2, .ref (aM 0)), (1, .ref (aX 0)), (0, .ref b)]) hx hb dL_law_15 rfl hl (by decide) rfl (fun ls hl => ?_)
  refine lv_iconst (v := 0) hx hb dL_law_16 (by decide) ?_
  refine lv_istore_n (lv' := [(3, .int 0), (2, .ref (aM 0)), (1, .ref (aX 0)), (0, .ref b)]) hx hb dL_law_17 rfl hl (by decide) rfl (fun ls hl => ?_)
  have hDX := va_D_l hD
  have hDM := va_D_r hD
  have C1 : LC p s m c b L xs D cy aX aM (adr (wX cy aX S0)) (adr (wM cy aM (T0 f))) := by
    refine ⟨hx, hb, hml, hown, htsL, hX, hbl, hK, fun S => va_D_map (va_D_adr hDX) (wX_map cy aX S0 S), fun T => va_D_map (va_D_adr hDM) (wM_map cy aM (T0 f) T), fun q hq => ?_, fun q hq => ?_, fun q h1 h2 => va_D_x hD h1 h2, hL⟩
    · obtain ⟨k, e, hk, rfl⟩ := adr_ex hq
      exact hDX.2 k e hk
    · obtain ⟨k, e, hk, rfl⟩ := adr_ex hq
      exact hDM.2 k e hk
  exact law_loop C1 hr hlocks (L + 1) 0 S0 (T0 f) H locs ls (Nat.zero_le _) (by omega) (rel_start f hf) (va_P_l hP) (va_P_r hP) hS (lv_sub hl [3, 2, 1, 0] rfl)
