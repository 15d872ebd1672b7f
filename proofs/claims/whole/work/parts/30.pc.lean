/-! ways of the reference -/
def sameX (a : Nat) (A B : MS) : Prop := mi B = mi A ∧ ma B = ma A ∧ ∀ b, b ≠ a → ml B b = ml A b
theorem sameX_rfl (a : Nat) (A : MS) : sameX a A A := ⟨rfl, rfl, fun _ _ => rfl⟩
theorem sameX_trans {a : Nat} {A B C : MS} (h : sameX a A B) (h2 : sameX a B C) : sameX a A C := ⟨h2.1.trans h.1, h2.2.1.trans h.2.1, fun b hb => (h2.2.2 b hb).trans (h.2.2 b hb)⟩
theorem sameX_ml (A : MS) (a j : Nat) (v : Int64) : sameX a A (mlW A a j v) := ⟨rfl, rfl, fun b hb => ml_mlW' A j v hb⟩
theorem sameX_own {a : Nat} {T A B : MS} (h : sameX a A B) (hA : hasOwn T A) : hasOwn T B := ⟨⟨fun k hk => by rw [h.1]; exact hA.1.1 k hk, fun b hb => by rw [h.2.1]; exact hA.1.2 b hb⟩, fun k hk => by rw [h.2.1]; exact hA.2 k hk⟩
/-- a row of eight numbers, written one by one -/
def rowM (a base : Nat) (g : Nat → Nat) (A : MS) : Nat → MS
  | 0 => A
  | j + 1 => mlW (rowM a base g A j) a (base + j) (lN (g j))
theorem rowM_same (a base : Nat) (g : Nat → Nat) (A : MS) (j : Nat) : sameX a A (rowM a base g A j) := by
  induction j with
  | zero => exact sameX_rfl _ _
  | succ j ih => exact sameX_trans ih (sameX_ml _ _ _ _)
theorem rowM_at (a base : Nat) (g : Nat → Nat) (A : MS) (j : Nat) : ∀ p, p < j → ml (rowM a base g A j) a (base + p) = lN (g p) := by
  induction j with
  | zero => intro p hp; omega
  | succ j ih =>
    intro p hp
    show ml (mlW _ a _ _) a _ = _
    rw [ml_mlW]
    by_cases e : p = j
    · subst e; rw [updL_s]
    · rw [updL_n _ _ (by omega)]; exact ih p (by omega)
theorem rowM_out (a base : Nat) (g : Nat → Nat) (A : MS) (j : Nat) : ∀ m, (m < base ∨ base + j ≤ m) → ml (rowM a base g A j) a m = ml A a m := by
  induction j with
  | zero => intro m _; rfl
  | succ j ih =>
    intro m hm
    show ml (mlW _ a _ _) a _ = _
    rw [ml_mlW, updL_n _ _ (by omega)]; exact ih m (by omega)
theorem m_upRow {T : MS} (h : wfM T) {b i : Nat} (hk : b + i < nT T) (x2 : Int32) (K : Int32 × Int32 × Int64 × Int32 × MS → Option (Int64 × MS)) {A : MS} (hA : hasOwn T A)
    (hrow : ∀ i', i' + 1 = i → ∀ q, q < 8 → ml A 13 (8 * (b + i') + q) = lN (upG (spT T) (oT T) (lkT T) b i' q)) :
    lp (fun k q => bX6_countUp_16 K k q.1 q.2.1 q.2.2.1 q.2.2.2.1 q.2.2.2.2.1 q.2.2.2.2.2) FU (nI b, x2, 0, nI (b + i), 0, A) = K (nI b, x2, lN (upT (spT T) (oT T) (lkT T) b (i + 1)), nI (b + i + 1), rowM 13 (8 * (b + i)) (upG (spT T) (oT T) (lkT T) b i) A 8) := by
  have hn := h.1
  refine lp_go _ (fun j => (nI b, x2, lN (sumN (upG (spT T) (oT T) (lkT T) b i) j), nI (b + i), nI j, rowM 13 (8 * (b + i)) (upG (spT T) (oT T) (lkT T) b i) A j)) _ 8 (by omega) ?_ ?_
  · intro j hj k0
    have hC := rowM_same 13 (8 * (b + i)) (upG (spT T) (oT T) (lkT T) b i) A j
    have hCo : ∀ m, m < 8 * (b + i) → ml (rowM 13 (8 * (b + i)) (upG (spT T) (oT T) (lkT T) b i) A j) 13 m = ml A 13 m := fun m hm => rowM_out 13 _ _ A j m (Or.inl hm)
    have hCA := sameX_own hC hA
    show bX6_countUp_16 K k0 (nI b) x2 (lN (sumN (upG (spT T) (oT T) (lkT T) b i) j)) (nI (b + i)) (nI j) (rowM 13 (8 * (b + i)) (upG (spT T) (oT T) (lkT T) b i) A j) = k0 (nI b, x2, lN (sumN (upG (spT T) (oT T) (lkT T) b i) (j + 1)), nI (b + i), nI (j + 1), mlW (rowM 13 (8 * (b + i)) (upG (spT T) (oT T) (lkT T) b i) A j) 13 (8 * (b + i) + j) (lN (upG (spT T) (oT T) (lkT T) b i j)))
    generalize rowM 13 (8 * (b + i)) (upG (spT T) (oT T) (lkT T) b i) A j = C at hC hCo hCA ⊢
    have hal := m_isAllowed h hCA hk hj
    have hlk := m_lk h hCA (k := b + i) (by omega)
    let v := upG (spT T) (oT T) (lkT T) b i j
    · have e127 : ∀ w : Int64, w = lN v → bX6_countUp_127 K k0 (nI b) x2 (lN (sumN (upG (spT T) (oT T) (lkT T) b i) j)) (nI (b + i)) (nI j) (8 * nI (b + i) + nI j) w C = k0 (nI b, x2, lN (sumN (upG (spT T) (oT T) (lkT T) b i) (j + 1)), nI (b + i), nI (j + 1), mlW C 13 (8 * (b + i) + j) (lN v)) := by
        intro w hw
        unfold bX6_countUp_127
        rw [x8, hw, ck_in (inb_nI (by omega) (by decide)), cl_nI (by omega), bnd_s, ck_in (inb_nI (by omega) (by decide)), bnd_s, ml_mlW, updL_s, lN_add, nI_1]
        rfl
      have e98 : ∀ w : Int64, (alB (spT T) (oT T) (b + i) j = true → w = lN v) → bX6_countUp_98 K k0 (nI b) x2 (lN (sumN (upG (spT T) (oT T) (lkT T) b i) j)) (nI (b + i)) (nI j) w C = k0 (nI b, x2, lN (sumN (upG (spT T) (oT T) (lkT T) b i) (j + 1)), nI (b + i), nI (j + 1), mlW C 13 (8 * (b + i) + j) (lN v)) := by
        intro w hw
        unfold bX6_countUp_98
        rw [hal, ob1_s, if_bi]
        cases hb : alB (spT T) (oT T) (b + i) j
        · rw [if_neg (by simp)]
          refine e127 0 ?_
          show (0 : Int64) = lN (upG (spT T) (oT T) (lkT T) b i j)
          have : upG (spT T) (oT T) (lkT T) b i j = 0 := by
            unfold upG
            cases i with
            | zero => simp only [gW]; rw [if_neg (by rw [hb]; simp)]
            | succ i => simp only [gW]; rw [if_neg (by rw [hb]; simp)]
          rw [this]; rfl
        · rw [if_pos rfl]
          exact e127 w (hw hb)
      unfold bX6_countUp_16
      rw [if_neg (ge8n hj)]
      have hq : ∀ q, q < 8 → lkT T (b + i) = 0 ∨ lkT T (b + i) = 1 ∨ lkT T (b + i) = 2 := fun _ _ => lk_cases T _
      cases i with
      | zero =>
        rw [Nat.add_zero] at *
        rw [if_pos rfl]
        refine (lp_go _ (fun _ => (nI b, x2, lN (sumN (upG (spT T) (oT T) (lkT T) b 0) j), nI b, nI j, 1, 0, C)) _ 0 (by omega) (fun j hj => by omega) ?_)
        intro kk
        dsimp only
        unfold bX6_countUp_39
        rw [if_neg (by decide), if_pos (nI_le (Nat.le_refl _) (by omega))]
        refine e98 1 (fun ha => ?_)
        show (1 : Int64) = lN (upG (spT T) (oT T) (lkT T) b 0 j)
        unfold upG
        simp only [gW, Nat.add_zero]
        rw [if_pos ha]; rfl
      | succ i =>
        rw [if_neg (show ¬ nI (b + (i + 1)) = nI b from fun q => by have := (nI_eq (by omega) (by omega)).mp q; omega)]
        let g : Nat → Nat := fun q => if maB (lkT T (b + (i + 1))) j q = true then upG (spT T) (oT T) (lkT T) b i q else 0
        refine (lp_go _ (fun q => (nI b, x2, lN (sumN (upG (spT T) (oT T) (lkT T) b (i + 1)) j), nI (b + (i + 1)), nI j, lN (sumN g q), nI q, C)) _ 8 (by omega) ?_ ?_)
        · intro q hq8 kk
          dsimp only
          unfold bX6_countUp_39
          rw [if_neg (ge8n hq8), if_neg (nI_ge (by omega) (by omega)), hlk, ob1_s, m_may (lk_cases T _) hj hq8, if_bi]
          have e1 : nI (b + (i + 1)) - 1 = nI (b + i) := by rw [show (1 : Int32) = nI 1 from rfl, pk_sub (by omega)]; rfl
          rw [e1, x8, ck_in (inb_nI (by omega) (by decide)), cl_nI (by omega), hCo _ (by omega), hrow i rfl q hq8, bnd_s, bnd_s, nI_1]
          show _ = kk (nI b, x2, _, _, nI j, lN (sumN g q + g q), nI (q + 1), C)
          cases hm : maB (lkT T (b + (i + 1))) j q
          · rw [if_neg (by simp), show g q = 0 from if_neg (by rw [hm]; simp), Int64.add_zero]
            rfl
          · rw [if_pos rfl, lN_add, show g q = upG (spT T) (oT T) (lkT T) b i q from if_pos hm]
        · intro kk
          dsimp only
          unfold bX6_countUp_39
          rw [if_pos ge8]
          refine e98 _ (fun ha => ?_)
          show lN (sumN g 8) = lN (upG (spT T) (oT T) (lkT T) b (i + 1) j)
          have : upG (spT T) (oT T) (lkT T) b (i + 1) j = sumN g 8 := by
            show gW _ _ (i + 1) j = _
            simp only [gW]
            rw [if_pos ha]; rfl
          rw [this]
  · intro k0
    dsimp only
    unfold bX6_countUp_16
    rw [if_pos ge8, nI_1]
    rfl
/-- the reference counts up from b: d paragraphs -/
theorem m_countUp {T : MS} (h : wfM T) {b d : Nat} (hd : b + d ≤ nT T) {A : MS} (hA : hasOwn T A) : ∃ B, fX6_countUp (nI b) (nI (b + d) - 1) A = some (lN (upT (spT T) (oT T) (lkT T) b d), B) ∧ sameX 13 A B ∧ (∀ i, i < d → ∀ q, q < 8 → ml B 13 (8 * (b + i) + q) = lN (upG (spT T) (oT T) (lkT T) b i q)) := by
  have hn := h.1
  have hcmp : ∀ j, j ≤ d → (nI (b + d) - 1 < nI (b + j) ↔ d ≤ j) := by
    intro j hj
    rw [Int32.lt_iff_toInt_lt, show (1 : Int32) = nI 1 from rfl, pk_sub_toInt (by omega) (by omega), nI_toInt (by omega)]
    omega
  unfold fX6_countUp
  refine lp_in _ (fun (j : Nat) (q : Int32 × Int32 × Int64 × Int32 × MS) => q.1 = nI b ∧ q.2.1 = nI (b + d) - 1 ∧ q.2.2.1 = lN (upT (spT T) (oT T) (lkT T) b j) ∧ q.2.2.2.1 = nI (b + j) ∧ sameX 13 A q.2.2.2.2 ∧ (∀ i, i < j → ∀ p, p < 8 → ml q.2.2.2.2 13 (8 * (b + i) + p) = lN (upG (spT T) (oT T) (lkT T) b i p)))
    (fun z => ∃ B, z = some (lN (upT (spT T) (oT T) (lkT T) b d), B) ∧ sameX 13 A B ∧ (∀ i, i < d → ∀ q, q < 8 → ml B 13 (8 * (b + i) + q) = lN (upG (spT T) (oT T) (lkT T) b i q))) d (by omega) (nI b, nI (b + d) - 1, 1, nI b, A) ⟨rfl, rfl, rfl, rfl, sameX_rfl _ _, fun i hi => by omega⟩ ?_ ?_
  · rintro j ⟨y1, y2, y3, y5, C⟩ hj ⟨e1, e2, e3, e5, hC, hCr⟩
    dsimp only at e1 e2 e3 e5 hC hCr
    subst e1; subst e2; subst e3; subst e5
    have hBe := fun K => m_upRow h (b := b) (i := j) (by omega) (nI (b + d) - 1) K (sameX_own hC hA) (fun i' hi' q hq => hCr i' (by omega) q hq)
    have hB1 := rowM_same 13 (8 * (b + j)) (upG (spT T) (oT T) (lkT T) b j) C 8
    have hB2 := rowM_at 13 (8 * (b + j)) (upG (spT T) (oT T) (lkT T) b j) C 8
    have hB3 := rowM_out 13 (8 * (b + j)) (upG (spT T) (oT T) (lkT T) b j) C 8
    generalize rowM 13 (8 * (b + j)) (upG (spT T) (oT T) (lkT T) b j) C 8 = B at hBe hB1 hB2 hB3
    refine ⟨(nI b, nI (b + d) - 1, lN (upT (spT T) (oT T) (lkT T) b (j + 1)), nI (b + j + 1), B), ⟨rfl, rfl, rfl, rfl, sameX_trans hC hB1, ?_⟩, ?_⟩
    · intro i hi p hp
      by_cases e : i = j
      · subst e; exact hB2 p hp
      · show ml B 13 _ = _
        rw [hB3 _ (by omega)]
        exact hCr i (by omega) p hp
    · intro k0
      dsimp only
      unfold bX6_countUp_5
      rw [if_neg (fun q => by have := (hcmp j (by omega)).mp q; omega)]
      exact hBe k0
  · rintro ⟨y1, y2, y3, y5, C⟩ ⟨e1, e2, e3, e5, hC, hCr⟩
    dsimp only at e1 e2 e3 e5 hC hCr
    subst e1; subst e2; subst e3; subst e5
    refine ⟨_, ⟨C, rfl, hC, hCr⟩, ?_⟩
    intro k0
    dsimp only
    unfold bX6_countUp_5
    rw [if_pos ((hcmp d (Nat.le_refl _)).mpr (Nat.le_refl _))]
