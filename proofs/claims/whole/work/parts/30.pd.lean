/-! ways of the reference: down, through, sure -/
theorem upG_0 (sp : Nat → Bool) (o lk : Nat → Int32) (b p : Nat) : upG sp o lk b 0 p = if alB sp o b p = true then 1 else 0 := rfl
theorem upG_s (sp : Nat → Bool) (o lk : Nat → Int32) (b i p : Nat) : upG sp o lk b (i + 1) p = if alB sp o (b + (i + 1)) p = true then sumN (fun q => if maB (lk (b + (i + 1))) p q = true then upG sp o lk b i q else 0) 8 else 0 := rfl
theorem dnG_0 {n k : Nat} (sp : Nat → Bool) (o lk : Nat → Int32) (p : Nat) (hk : k = n - 1) : dnG n sp o lk 0 p = if alB sp o k p = true then 1 else 0 := by
  subst hk
  rfl
theorem dnG_s {n k e : Nat} (sp : Nat → Bool) (o lk : Nat → Int32) (p : Nat) (hk : k + 1 + (e + 1) = n) : dnG n sp o lk (e + 1) p = if alB sp o k p = true then sumN (fun q => if maB (lk (k + 1)) p q = true then dnG n sp o lk e q else 0) 8 else 0 := by
  have h1 : n - 1 - (e + 1) = k := by omega
  have h2 : n - (e + 1) = k + 1 := by omega
  show (if alB sp o (n - 1 - (e + 1)) p = true then sumN (fun q => if maB (lk (n - (e + 1))) p q = true then dnG n sp o lk e q else 0) 8 else 0) = _
  rw [h1, h2]
theorem upG_no {sp : Nat → Bool} {o lk : Nat → Int32} {b i p : Nat} (h : alB sp o (b + i) p = false) : upG sp o lk b i p = 0 := by
  cases i with
  | zero => rw [upG_0, if_neg (by rw [Nat.add_zero] at h; rw [h]; simp)]
  | succ i => rw [upG_s, if_neg (by rw [h]; simp)]
theorem dnG_no {n k e : Nat} {sp : Nat → Bool} {o lk : Nat → Int32} {p : Nat} (hk : k + 1 + e = n) (h : alB sp o k p = false) : dnG n sp o lk e p = 0 := by
  cases e with
  | zero => rw [dnG_0 sp o lk p (k := k) (by omega), if_neg (by rw [h]; simp)]
  | succ e => rw [dnG_s sp o lk p (k := k) (by omega), if_neg (by rw [h]; simp)]
theorem m_dnRow {T : MS} (h : wfM T) {e k : Nat} (he : e < nT T) (hk : k = nT T - 1 - e) (K : Int32 × MS → Option MS) {A : MS} (hA : hasOwn T A)
    (hrow : ∀ e', e' + 1 = e → ∀ q, q < 8 → ml A 14 (8 * (k + 1) + q) = lN (dnG (nT T) (spT T) (oT T) (lkT T) e' q)) :
    lp (fun k q => bX6_countDown_13 K k q.1 q.2.1 q.2.2) FU (nI k, 0, A) = K (nI k + (-1), rowM 14 (8 * k) (dnG (nT T) (spT T) (oT T) (lkT T) e) A 8) := by
  have hn := h.1
  have hkn : k < nT T := by omega
  refine lp_go _ (fun j => (nI k, nI j, rowM 14 (8 * k) (dnG (nT T) (spT T) (oT T) (lkT T) e) A j)) _ 8 (by omega) ?_ ?_
  · intro j hj k0
    have hC := rowM_same 14 (8 * k) (dnG (nT T) (spT T) (oT T) (lkT T) e) A j
    have hCo : ∀ q, q < 8 → ml (rowM 14 (8 * k) (dnG (nT T) (spT T) (oT T) (lkT T) e) A j) 14 (8 * (k + 1) + q) = ml A 14 (8 * (k + 1) + q) := fun q hq => rowM_out 14 _ _ A j _ (Or.inr (by omega))
    have hCA := sameX_own hC hA
    show bX6_countDown_13 K k0 (nI k) (nI j) (rowM 14 (8 * k) (dnG (nT T) (spT T) (oT T) (lkT T) e) A j) = k0 (nI k, nI (j + 1), mlW (rowM 14 (8 * k) (dnG (nT T) (spT T) (oT T) (lkT T) e) A j) 14 (8 * k + j) (lN (dnG (nT T) (spT T) (oT T) (lkT T) e j)))
    generalize rowM 14 (8 * k) (dnG (nT T) (spT T) (oT T) (lkT T) e) A j = C at hC hCo hCA ⊢
    have hal := m_isAllowed h hCA hkn hj
    have hlk := m_lk h hCA (k := k + 1) (by omega)
    have h3 : mi C 3 = nI (nT T) := by rw [hCA.1.1 3 (by omega)]; exact hn.1
    have e3 : nI (nT T) - 1 = nI (nT T - 1) := by rw [show (1 : Int32) = nI 1 from rfl, pk_sub (by omega)]
    let v := dnG (nT T) (spT T) (oT T) (lkT T) e j
    have e122 : ∀ w : Int64, w = lN v → bX6_countDown_122 K k0 (nI k) (nI j) (8 * nI k + nI j) w C = k0 (nI k, nI (j + 1), mlW C 14 (8 * k + j) (lN v)) := by
      intro w hw
      unfold bX6_countDown_122
      rw [x8, hw, ck_in (inb_nI (by omega) (by decide)), cl_nI (by omega), bnd_s, nI_1]
    have e98 : ∀ w : Int64, (alB (spT T) (oT T) k j = true → w = lN v) → bX6_countDown_98 K k0 (nI k) (nI j) w C = k0 (nI k, nI (j + 1), mlW C 14 (8 * k + j) (lN v)) := by
      intro w hw
      unfold bX6_countDown_98
      rw [hal, ob1_s, if_bi]
      cases hb : alB (spT T) (oT T) k j
      · rw [if_neg (by simp)]
        refine e122 0 ?_
        show (0 : Int64) = lN (dnG (nT T) (spT T) (oT T) (lkT T) e j)
        rw [dnG_no (k := k) (by omega) hb]; rfl
      · rw [if_pos rfl]
        exact e122 w (hw hb)
    unfold bX6_countDown_13
    rw [if_neg (ge8n hj), h3, e3]
    cases e with
    | zero =>
      have hk' : k = nT T - 1 := by omega
      rw [if_pos (by rw [hk'])]
      refine (lp_go _ (fun _ => (nI k, nI j, 1, 0, C)) _ 0 (by omega) (fun j hj => by omega) ?_)
      intro kk
      dsimp only
      unfold bX6_countDown_38
      rw [if_neg (by decide), h3, e3, if_pos (nI_le (by omega) (by omega))]
      refine e98 1 (fun ha => ?_)
      show (1 : Int64) = lN (dnG (nT T) (spT T) (oT T) (lkT T) 0 j)
      rw [dnG_0 _ _ _ _ hk', if_pos ha]; rfl
    | succ e =>
      rw [if_neg (show ¬ nI k = nI (nT T - 1) from fun q => by have := (nI_eq (by omega) (by omega)).mp q; omega)]
      let g : Nat → Nat := fun q => if maB (lkT T (k + 1)) j q = true then dnG (nT T) (spT T) (oT T) (lkT T) e q else 0
      refine (lp_go _ (fun q => (nI k, nI j, lN (sumN g q), nI q, C)) _ 8 (by omega) ?_ ?_)
      · intro q hq8 kk
        dsimp only
        unfold bX6_countDown_38
        rw [if_neg (ge8n hq8), h3, e3, if_neg (nI_ge (by omega) (by omega)), nI_1, hlk, ob1_s, m_may (lk_cases T _) hj hq8, if_bi, x8, ck_in (inb_nI (by omega) (by decide)), cl_nI (by omega), hCo q hq8, hrow e rfl q hq8, bnd_s, bnd_s, nI_1]
        show _ = kk (nI k, nI j, lN (sumN g q + g q), nI (q + 1), C)
        cases hm : maB (lkT T (k + 1)) j q
        · rw [if_neg (by simp), show g q = 0 from if_neg (by rw [hm]; simp), Int64.add_zero]
          rfl
        · rw [if_pos rfl, lN_add, show g q = dnG (nT T) (spT T) (oT T) (lkT T) e q from if_pos hm]
      · intro kk
        dsimp only
        unfold bX6_countDown_38
        rw [if_pos ge8]
        refine e98 _ (fun ha => ?_)
        show lN (sumN g 8) = lN (dnG (nT T) (spT T) (oT T) (lkT T) (e + 1) j)
        have : dnG (nT T) (spT T) (oT T) (lkT T) (e + 1) j = sumN g 8 := by
          rw [dnG_s _ _ _ _ (k := k) (by omega), if_pos ha]
        rw [this]
  · intro k0
    dsimp only
    unfold bX6_countDown_13
    rw [if_pos ge8]
theorem m_countDown {T : MS} (h : wfM T) {A : MS} (hA : hasOwn T A) : ∃ B, fX6_countDown A = some B ∧ sameX 14 A B ∧ ∀ e, e < nT T → ∀ q, q < 8 → ml B 14 (8 * (nT T - 1 - e) + q) = lN (dnG (nT T) (spT T) (oT T) (lkT T) e q) := by
  have hn := h.1
  have h3 : mi A 3 = nI (nT T) := by rw [hA.1.1 3 (by omega)]; exact hn.1
  unfold fX6_countDown
  rw [bnd_s, h3]
  refine lp_ex _ (fun (j : Nat) (q : Int32 × MS) => q.1 = nI (nT T - j) - 1 ∧ sameX 14 A q.2 ∧ ∀ e, e < j → ∀ p, p < 8 → ml q.2 14 (8 * (nT T - 1 - e) + p) = lN (dnG (nT T) (spT T) (oT T) (lkT T) e p)) _ (nT T) (by omega) (nI (nT T) - 1, A) ⟨rfl, sameX_rfl _ _, fun e he => by omega⟩ ?_ ?_
  · rintro j ⟨y1, C⟩ hj ⟨e1, hC, hCr⟩
    dsimp only at e1 hC hCr
    subst e1
    have e2 : nI (nT T - j) - 1 = nI (nT T - 1 - j) := by rw [show (1 : Int32) = nI 1 from rfl, pk_sub (by omega)]; congr 1; omega
    have hBe := fun K => m_dnRow h (e := j) (k := nT T - 1 - j) hj rfl K (sameX_own hC hA) (fun e' he' q hq => by
      have := hCr e' (by omega) q hq
      rw [show nT T - 1 - j + 1 = nT T - 1 - e' from by omega]
      exact this)
    have hB1 := rowM_same 14 (8 * (nT T - 1 - j)) (dnG (nT T) (spT T) (oT T) (lkT T) j) C 8
    have hB2 := rowM_at 14 (8 * (nT T - 1 - j)) (dnG (nT T) (spT T) (oT T) (lkT T) j) C 8
    have hB3 := rowM_out 14 (8 * (nT T - 1 - j)) (dnG (nT T) (spT T) (oT T) (lkT T) j) C 8
    generalize rowM 14 (8 * (nT T - 1 - j)) (dnG (nT T) (spT T) (oT T) (lkT T) j) C 8 = B at hBe hB1 hB2 hB3
    refine ⟨(nI (nT T - 1 - j) + (-1), B), ⟨?_, sameX_trans hC hB1, ?_⟩, ?_⟩
    · show nI (nT T - 1 - j) + (-1) = nI (nT T - (j + 1)) - 1
      rw [show nT T - (j + 1) = nT T - 1 - j from by omega, Int32.sub_eq_add_neg]
    · intro e he p hp
      by_cases q : e = j
      · subst q; exact hB2 p hp
      · show ml B 14 _ = _
        rw [hB3 _ (by omega)]
        exact hCr e (by omega) p hp
    · intro k0
      dsimp only
      unfold bX6_countDown_7
      rw [e2, if_neg (nI_pos (by omega))]
      exact hBe k0
  · rintro ⟨y1, C⟩ ⟨e1, hC, hCr⟩
    dsimp only at e1 hC hCr
    subst e1
    refine ⟨_, ⟨C, rfl, hC, hCr⟩, ?_⟩
    intro k0
    dsimp only
    unfold bX6_countDown_7
    rw [Nat.sub_self, if_pos (by decide)]
/-- behind findWays -/
def waysIn (T B : MS) : Prop := hasOwn T B ∧ (∀ i, i < nT T → ∀ q, q < 8 → ml B 13 (8 * i + q) = lN (upG (spT T) (oT T) (lkT T) 0 i q)) ∧ ∀ e, e < nT T → ∀ q, q < 8 → ml B 14 (8 * (nT T - 1 - e) + q) = lN (dnG (nT T) (spT T) (oT T) (lkT T) e q)
theorem m_findWays {T : MS} (h : wfM T) : ∃ B, fX6_findWays T = some (lN (upT (spT T) (oT T) (lkT T) 0 (nT T)), B) ∧ frM (fun a => a = 9) T B ∧ waysIn T B := by
  obtain ⟨A, h1, hf1, -, ho⟩ := m_findOwn h
  have hA : hasOwn T A := ⟨frM_cor hf1 (fun a e => by omega), ho⟩
  obtain ⟨C, h2, hs2, hd⟩ := m_countDown h hA
  have hC := sameX_own hs2 hA
  obtain ⟨B, h3, hs3, hu⟩ := m_countUp h (b := 0) (d := nT T) (by omega) hC
  have h30 : mi C 3 = nI (nT T) := by rw [hC.1.1 3 (by omega)]; exact h.1.1
  unfold fX6_findWays
  rw [h1, ob1_s, h2, ob1_s, h30]
  rw [Nat.zero_add] at h3
  rw [show (0 : Int32) = nI 0 from rfl, h3, ob2_s]
  refine ⟨B, rfl, ?_, sameX_own hs3 hC, ?_, ?_⟩
  · exact ⟨hs3.1.trans (hs2.1.trans hf1.1), fun a ha => by rw [hs3.2.1, hs2.2.1]; exact hf1.2 a ha⟩
  · intro i hi q hq
    have := hu i hi q hq
    rw [Nat.zero_add] at this
    exact this
  · intro e he q hq
    rw [hs3.2.2 14 (by decide)]
    exact hd e he q hq
def wwN (n : Nat) (sp : Nat → Bool) (o lk : Nat → Int32) (k p : Nat) : Nat := upG sp o lk 0 k p * dnG n sp o lk (n - 1 - k) p
theorem wwN_le {n : Nat} (sp : Nat → Bool) (o lk : Nat → Int32) {k : Nat} (hn : n ≤ 16) (hk : k < n) (p : Nat) : wwN n sp o lk k p < 2 ^ 63 := by
  have h1 : upG sp o lk 0 k p ≤ 8 ^ k := gW_le _ _ _ _
  have h2 : dnG n sp o lk (n - 1 - k) p ≤ 8 ^ (n - 1 - k) := gW_le _ _ _ _
  have h3 : wwN n sp o lk k p ≤ 8 ^ k * 8 ^ (n - 1 - k) := Nat.mul_le_mul h1 h2
  rw [← Nat.pow_add] at h3
  have h4 : 8 ^ (k + (n - 1 - k)) ≤ 8 ^ 15 := Nat.pow_le_pow_right (by decide) (by omega)
  have h5 : (8 : Nat) ^ 15 < 2 ^ 63 := by decide
  omega
theorem m_waysWith {T B : MS} (h : wfM T) (hB : waysIn T B) {k p : Nat} (hk : k < nT T) (hp : p < 8) : fX6_waysWith (nI k) (nI p) B = some (lN (wwN (nT T) (spT T) (oT T) (lkT T) k p)) := by
  have hn := h.1
  obtain ⟨hO, hu, hd⟩ := hB
  have h3 : mi B 3 = nI (nT T) := by rw [hO.1.1 3 (by omega)]; exact hn.1
  have e67 : ∀ w : Nat, (alB (spT T) (oT T) k p = true → w = dnG (nT T) (spT T) (oT T) (lkT T) (nT T - 1 - k) p) → bX6_waysWith_67 (nI k) (nI p) (lN w) B = some (lN (wwN (nT T) (spT T) (oT T) (lkT T) k p)) := by
    intro w hw
    unfold bX6_waysWith_67
    rw [x8, ck_in (inb_nI (by omega) (by decide)), cl_nI (by omega), hu k hk p hp, lN_mul]
    cases hb : alB (spT T) (oT T) k p
    · have : upG (spT T) (oT T) (lkT T) 0 k p = 0 := upG_no (by rw [Nat.zero_add]; exact hb)
      unfold wwN
      rw [this, Nat.zero_mul, Nat.zero_mul]
    · rw [hw hb]; rfl
  unfold fX6_waysWith
  rw [h3, nI_1]
  by_cases hq : k + 1 < nT T
  · rw [if_neg (nI_ge hq (by omega))]
    obtain ⟨e, he⟩ : ∃ e, nT T - 1 - k = e + 1 := ⟨nT T - 2 - k, by omega⟩
    let g : Nat → Nat := fun q => if maB (lkT T (k + 1)) p q = true then dnG (nT T) (spT T) (oT T) (lkT T) e q else 0
    refine (lp_go _ (fun q => (nI k, nI p, lN (sumN g q), nI q, B)) _ 8 (by omega) ?_ ?_)
    · intro q hq8 kk
      dsimp only
      unfold bX6_waysWith_17
      have := hd e (by omega) q hq8
      rw [show nT T - 1 - e = k + 1 from by omega] at this
      rw [if_neg (ge8n hq8), nI_1, m_lk h hO (by omega), ob1_s, m_may (lk_cases T _) hp hq8, if_bi, x8, ck_in (inb_nI (by omega) (by decide)), cl_nI (by omega), this, bnd_s, bnd_s, nI_1]
      show _ = kk (nI k, nI p, lN (sumN g q + g q), nI (q + 1), B)
      cases hm : maB (lkT T (k + 1)) p q
      · rw [if_neg (by simp), show g q = 0 from if_neg (by rw [hm]; simp), Int64.add_zero]
        rfl
      · rw [if_pos rfl, lN_add, show g q = dnG (nT T) (spT T) (oT T) (lkT T) e q from if_pos hm]
    · intro kk
      dsimp only
      unfold bX6_waysWith_17
      rw [if_pos ge8]
      refine e67 _ (fun ha => ?_)
      rw [he]
      rw [dnG_s _ _ _ _ (k := k) (by omega), if_pos ha]
  · rw [if_pos (nI_le (by omega) (by omega))]
    refine e67 1 (fun ha => ?_)
    rw [show nT T - 1 - k = 0 from by omega]
    rw [dnG_0 _ _ _ _ (k := k) (by omega), if_pos ha]
def suN (n : Nat) (sp : Nat → Bool) (o lk : Nat → Int32) (k : Nat) : Int32 := orN (fun p => if sp k = true ∧ 0 < wwN n sp o lk k p then (1 : Int32) <<< (nI p &&& 31) else 0) 8
theorem gt0 {w : Nat} (h : w < 2 ^ 63) : (lg_cmp (lN w) 0 ≤ 0) ↔ w = 0 := by
  rw [lg_cmp_le, show (0 : Int64) = lN 0 from rfl, pk_lLE h (by decide)]
  omega
abbrev pS : Nat → Prop := fun a => a = 9 ∨ a = 15
theorem waysIn_15 {T B : MS} (h : waysIn T B) (j : Nat) (v : Int32) : waysIn T (maW B 15 j v) := ⟨⟨cor_trans h.1.1 (cor_ma B (by omega) _ _), fun k hk => (congrFun (ma_maW' B j v (by decide : (9 : Nat) ≠ 15)) k).trans (h.1.2 k hk)⟩, h.2.1, h.2.2⟩
theorem m_findSure {T : MS} (h : wfM T) : ∃ B, fX6_findSure T = some B ∧ frM pS T B ∧ waysIn T B ∧ ∀ k, k < nT T → ma B 15 k = suN (nT T) (spT T) (oT T) (lkT T) k := by
  have hn := h.1
  obtain ⟨B0, h0, hf0, hw0⟩ := m_findWays h
  have hf0 : frM pS T B0 := frM_mono hf0 (fun a q => Or.inl q)
  unfold fX6_findSure
  rw [h0, ob2_s]
  refine lp_ex _ (fun (j : Nat) (q : Int32 × MS) => q.1 = nI j ∧ frM pS T q.2 ∧ waysIn T q.2 ∧ ∀ k, k < j → ma q.2 15 k = suN (nT T) (spT T) (oT T) (lkT T) k) _ (nT T) (by omega) (0, B0) ⟨rfl, hf0, hw0, fun k hk => by omega⟩ ?_ ?_
  · rintro j ⟨x, C⟩ hj ⟨e, hC, hwC, hsC⟩
    dsimp only at e hC hwC hsC
    subst e
    have h3 : mi C 3 = nI (nT T) := by rw [hC.1]; exact hn.1
    let g : Nat → Int32 := fun p => if spT T j = true ∧ 0 < wwN (nT T) (spT T) (oT T) (lkT T) j p then (1 : Int32) <<< (nI p &&& 31) else 0
    -- the row of one paragraph
    let D : Nat → MS := fun q => Nat.rec (maW C 15 j 0) (fun p A => maW A 15 j (orN g (p + 1))) q
    have hD0 : D 0 = maW C 15 j 0 := rfl
    have hDs : ∀ p, D (p + 1) = maW (D p) 15 j (orN g (p + 1)) := fun p => rfl
    have hDj : ∀ p, ma (D p) 15 j = orN g p := by
      intro p
      cases p with
      | zero => rw [hD0, ma_maW, upd_s]; rfl
      | succ p => rw [hDs, ma_maW, upd_s]
    have hDo : ∀ p k, k ≠ j → ma (D p) 15 k = ma C 15 k := by
      intro p k hk
      induction p with
      | zero => rw [hD0, ma_maW, upd_n _ _ hk]
      | succ p ih => rw [hDs, ma_maW, upd_n _ _ hk]; exact ih
    have hDw : ∀ p, waysIn T (D p) := by
      intro p
      induction p with
      | zero => exact waysIn_15 hwC _ _
      | succ p ih => rw [hDs]; exact waysIn_15 ih _ _
    have hDf : ∀ p, frM pS T (D p) := by
      intro p
      induction p with
      | zero => exact frM_trans hC (frM_ma C (Or.inr rfl) _ _)
      | succ p ih => rw [hDs]; exact frM_trans ih (frM_ma _ (Or.inr rfl) _ _)
    have hrowE : ∀ K : Int32 × MS → Option MS, lp (fun k q => bX6_findSure_24 K k q.1 q.2.1 q.2.2) FU (nI j, 0, D 0) = K (nI (j + 1), D 8) := by
      intro K
      refine lp_go _ (fun p => (nI j, nI p, D p)) _ 8 (by omega) ?_ ?_
      · intro p hp k0
        show bX6_findSure_24 K k0 (nI j) (nI p) (D p) = k0 (nI j, nI (p + 1), D (p + 1))
        have hrj := ((cor_wf (hDw p).1.1 h).2.2.2.2.2 j (by rw [cor_n (hDw p).1.1]; exact hj)).1
        have e63 : ∀ v : Int32, orN g p ||| v = orN g (p + 1) → bX6_findSure_63 K k0 (nI j) (nI p) (nI j) (orN g p) v (D p) = k0 (nI j, nI (p + 1), D (p + 1)) := by
          intro v hv
          unfold bX6_findSure_63
          rw [ck_in (inb_nI (by omega) (by decide)), cl_nI (by omega), bnd_s, nI_1, hv, hDs]
        unfold bX6_findSure_24
        rw [if_neg (ge8n hp), ck_in (inb_nI (by omega) (by decide)), m_speaks _ (by omega) hrj, ob1_s, if_bi, m_waysWith h (hDw p) hj hp, ob1_s, cl_nI (by omega), hDj, cor_sp (hDw p).1.1]
        have hlt := wwN_le (spT T) (oT T) (lkT T) hn.2 hj p
        cases hs : spT T j
        · rw [if_neg (by simp)]
          refine e63 0 ?_
          show orN g p ||| 0 = orN g p ||| g p
          rw [show g p = 0 from if_neg (fun q => by rw [hs] at q; exact absurd q.1 (by simp))]
        · rw [if_pos rfl]
          by_cases hz : wwN (nT T) (spT T) (oT T) (lkT T) j p = 0
          · rw [if_pos ((gt0 hlt).mpr hz)]
            refine e63 0 ?_
            show orN g p ||| 0 = orN g p ||| g p
            rw [show g p = 0 from if_neg (fun q => by omega)]
          · rw [if_neg (fun q => hz ((gt0 hlt).mp q))]
            refine e63 _ ?_
            show orN g p ||| _ = orN g p ||| g p
            rw [show g p = (1 : Int32) <<< (nI p &&& 31) from if_pos ⟨hs, by omega⟩]
      · intro k0
        dsimp only
        unfold bX6_findSure_24
        rw [if_pos ge8, nI_1]
    refine ⟨(nI (j + 1), D 8), ⟨rfl, hDf 8, hDw 8, ?_⟩, ?_⟩
    · intro k hk
      show ma (D 8) 15 k = _
      by_cases q : k = j
      · subst q; rw [hDj]; rfl
      · rw [hDo 8 k q]; exact hsC k (by omega)
    · intro k0
      dsimp only
      unfold bX6_findSure_7
      rw [h3, if_neg (nI_ge hj (by omega)), ck_in (inb_nI (by omega) (by decide)), cl_nI (by omega), bnd_s]
      exact hrowE k0
  · rintro ⟨x, C⟩ ⟨e, hC, hwC, hsC⟩
    dsimp only at e hC hwC hsC
    subst e
    have h3 : mi C 3 = nI (nT T) := by rw [hC.1]; exact hn.1
    refine ⟨_, ⟨C, rfl, hC, hwC, hsC⟩, ?_⟩
    intro k0
    dsimp only
    unfold bX6_findSure_7
    rw [h3, if_pos (nI_le (Nat.le_refl _) (by omega))]
