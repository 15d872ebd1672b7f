/-! the reference's readers, as plain functions of its state -/
def cntN (P : Nat → Bool) : Nat → Nat
  | 0 => 0
  | j + 1 => cntN P j + (if P j then 1 else 0)
theorem cntN_le (P : Nat → Bool) (j : Nat) : cntN P j ≤ j := by
  induction j with
  | zero => exact Nat.le_refl _
  | succ j ih => simp only [cntN]; split <;> omega
def orN (f : Nat → Int32) : Nat → Int32
  | 0 => 0
  | j + 1 => orN f j ||| f j
theorem tb_orN (f : Nat → Int32) (j p : Nat) : tb (orN f j) p = true ↔ ∃ i, i < j ∧ tb (f i) p = true := by
  induction j with
  | zero => simp [orN, tb_0]
  | succ j ih =>
    simp only [orN, tb_or, Bool.or_eq_true, ih]
    constructor
    · rintro (⟨i, h1, h2⟩ | h)
      · exact ⟨i, by omega, h2⟩
      · exact ⟨j, by omega, h⟩
    · rintro ⟨i, h1, h2⟩
      rcases Nat.lt_or_ge i j with h | h
      · exact Or.inl ⟨i, h, h2⟩
      · have : i = j := by omega
        subst this
        exact Or.inr h2
def nT (T : MS) : Nat := (mi T 3).toNatClampNeg
def tT (T : MS) : Nat := (mi T 2).toNatClampNeg
def cT (T : MS) (k : Nat) : Nat := (ma T 3 k).toNatClampNeg
def itT (T : MS) (k i : Nat) : Int32 := ma T 4 (12 * k + i)
def whT (T : MS) (k i : Nat) : Int32 := ma T 5 (12 * k + i)
def itOk (a w : Int32) : Prop := (a = 0 ∧ (w = -9 ∨ ∃ p, p < 8 ∧ w = nI p)) ∨ ((a = 1 ∨ a = 2 ∨ a = 3 ∨ a = 4) ∧ w = -9) ∨ (a = 5 ∧ ∃ p, p < 8 ∧ w = nI p)
def rowOk (T : MS) (k : Nat) : Prop := (ma T 3 k = nI (cT T k) ∧ cT T k ≤ 12) ∧ (∀ i, i < cT T k → itOk (itT T k i) (whT T k i))
def rowMore (T : MS) (k : Nat) : Prop := (ma T 6 k = 0 ∨ ma T 6 k = 1) ∧ S8 (ma T 7 k) ∧ (ma T 8 k = -9 ∨ S8 (ma T 8 k))
def wfM (T : MS) : Prop :=
  (mi T 3 = nI (nT T) ∧ nT T ≤ 16) ∧ (mi T 2 = nI (tT T) ∧ tT T ≤ 12) ∧
  (∀ p, p < 8 → ma T 1 p = -9 ∨ ma T 1 p = 0 ∨ ma T 1 p = 1 ∨ ma T 1 p = 2) ∧
  S8 (mi T 0) ∧ (∃ v, v < 16 ∧ mi T 1 = nI v) ∧ (∀ k, k < nT T → rowOk T k ∧ rowMore T k)
/-- how many items of a sort -/
theorem m_manyOf (T : MS) {k : Nat} (hk : k < 16) (h : rowOk T k) (w : Int32) : fX6_manyOf (nI k) w T = some (nI (cntN (fun i => decide (itT T k i = w)) (cT T k))) := by
  unfold fX6_manyOf
  obtain ⟨⟨hc, hc12⟩, -⟩ := h
  refine lp_go _ (fun j => (nI k, w, nI (cntN (fun i => decide (itT T k i = w)) j), nI j, T)) _ (cT T k) (by omega) ?_ ?_
  · intro j hj k0
    dsimp only
    unfold bX6_manyOf_5
    rw [ck_in (inb_nI hk (by decide)), cl_nI (by omega), hc, if_neg (nI_ge hj (by omega))]
    have hx : (12 : Int32) * nI k + nI j = nI (12 * k + j) := by rw [show (12 : Int32) = nI 12 from rfl, pk_mul, nI_add]
    rw [hx, ck_in (inb_nI (by omega) (by decide)), cl_nI (by omega)]
    by_cases h9 : ma T 4 (12 * k + j) = w
    · rw [if_pos h9]
      simp only [bnd, cntN, itT, h9, decide_true, if_true, nI_1]
    · rw [if_neg h9]
      simp only [bnd, cntN, itT, h9, decide_false, nI_1, Int32.add_zero, Nat.add_zero]
      rfl
  · intro k0
    dsimp only
    unfold bX6_manyOf_5
    rw [ck_in (inb_nI hk (by decide)), cl_nI (by omega), hc, if_pos (nI_le (Nat.le_refl _) (by omega))]
