/-! ways of the class -/
theorem tW_skip {a : Nat → Nat → Bool} {l : Nat → Int32} {i : Nat} (ha : ∀ p, a i p = decide (p = 0)) (hl : i = 0 ∨ l i = 0) : tW a l (i + 1) = tW a l i := by
  cases i with
  | zero =>
    show sumN (gW a l 0) 8 = 1
    have : ∀ p, p < 8 → gW a l 0 p = if decide (0 = p) = true then (fun _ => 1) p else 0 := by
      intro p _
      simp only [gW, ha]
      by_cases e : p = 0
      · subst e; rfl
      · rw [if_neg (by simp [e]), if_neg (by simp; omega)]
    rw [sumN_cong 8 this, sum_one]; rfl
  | succ i =>
    have hl : l (i + 1) = 0 := by rcases hl with q | q; omega; exact q
    show sumN (gW a l (i + 1)) 8 = sumN (gW a l i) 8
    have : ∀ p, p < 8 → gW a l (i + 1) p = if decide (0 = p) = true then (fun _ => sumN (gW a l i) 8) p else 0 := by
      intro p _
      simp only [gW, ha, hl]
      by_cases e : p = 0
      · subst e
        rw [if_pos (by simp), if_pos (by simp)]
        exact sumN_cong 8 (fun q _ => rfl)
      · rw [if_neg (by simp [e]), if_neg (by simp; omega)]
    rw [sumN_cong 8 this, sum_one]; rfl
theorem gW_step {a : Nat → Nat → Bool} {l : Nat → Int32} {i p : Nat} (hl : l (i + 1) = 0 ∨ l (i + 1) = 1 ∨ l (i + 1) = 2) (hp : p < 8) : gW a l (i + 1) p = if a (i + 1) p = true then fitN (l (i + 1)) (gW a l i p) (tW a l (i + 1)) else 0 := by
  show (if a (i + 1) p = true then sumN (fun q => if maB (l (i + 1)) p q = true then gW a l i q else 0) 8 else 0) = _
  rw [sum_may (gW a l i) hl hp]; rfl
theorem fit_lN {l : Int32} {s a : Nat} (hs : s ≤ a) : fX0_fitting (lN s) l (lN a) = lN (fitN l s a) := by
  unfold fX0_fitting fitN
  by_cases h1 : l = 1
  · rw [if_pos h1, if_pos h1]
  · rw [if_neg h1, if_neg h1]
    by_cases h2 : l = 2
    · rw [if_pos h2, if_pos h2, lN_sub hs]
    · rw [if_neg h2, if_neg h2]
theorem fit_0 (x : Int64) (a : Int64) : fX0_fitting x 0 a = a := by
  unfold fX0_fitting
  rw [if_neg (by decide), if_neg (by decide)]
theorem x8' {k j : Nat} : nI k * 8 + nI j = nI (8 * k + j) := by rw [show (8 : Int32) = nI 8 from rfl, pk_mul, nI_add, Nat.mul_comm]
def sameY (a : Nat) (A B : XS) : Prop := xi B = xi A ∧ xa B = xa A ∧ B.2.2.2 = A.2.2.2 ∧ ∀ b, b ≠ a → xl B b = xl A b
theorem sameY_rfl (a : Nat) (A : XS) : sameY a A A := ⟨rfl, rfl, rfl, fun _ _ => rfl⟩
theorem sameY_trans {a : Nat} {A B C : XS} (h : sameY a A B) (h2 : sameY a B C) : sameY a A C := ⟨h2.1.trans h.1, h2.2.1.trans h.2.1, h2.2.2.1.trans h.2.2.1, fun b hb => (h2.2.2.2 b hb).trans (h.2.2.2 b hb)⟩
theorem sameY_xl (A : XS) (a j : Nat) (v : Int64) : sameY a A (xlW A a j v) := ⟨rfl, rfl, rfl, fun b hb => xl_xlW' A j v hb⟩
theorem sameY_ch {a n : Nat} {sp : Nat → Bool} {o lk : Nat → Int32} {A B : XS} (h : sameY a A B) (hA : chX n sp o lk A) : chX n sp o lk B := by
  unfold chX at hA ⊢
  rw [h.1, h.2.1]
  exact hA
theorem sameY_fr {a : Nat} {P : Nat → Prop} {A B : XS} (h : sameY a A B) : frX P A B := ⟨h.1, h.2.2.1, fun _ _ => by rw [h.2.1]⟩
def rowX (a base : Nat) (g : Nat → Nat) (A : XS) : Nat → XS
  | 0 => A
  | j + 1 => xlW (rowX a base g A j) a (base + j) (lN (g j))
theorem rowX_same (a base : Nat) (g : Nat → Nat) (A : XS) (j : Nat) : sameY a A (rowX a base g A j) := by
  induction j with
  | zero => exact sameY_rfl _ _
  | succ j ih => exact sameY_trans ih (sameY_xl _ _ _ _)
theorem rowX_at (a base : Nat) (g : Nat → Nat) (A : XS) (j : Nat) : ∀ p, p < j → xl (rowX a base g A j) a (base + p) = lN (g p) := by
  induction j with
  | zero => intro p hp; omega
  | succ j ih =>
    intro p hp
    show xl (xlW _ a _ _) a _ = _
    rw [xl_xlW]
    by_cases e : p = j
    · subst e; rw [updL_s]
    · rw [updL_n _ _ (by omega)]; exact ih p (by omega)
theorem rowX_out (a base : Nat) (g : Nat → Nat) (A : XS) (j : Nat) : ∀ m, (m < base ∨ base + j ≤ m) → xl (rowX a base g A j) a m = xl A a m := by
  induction j with
  | zero => intro m _; rfl
  | succ j ih =>
    intro m hm
    show xl (xlW _ a _ _) a _ = _
    rw [xl_xlW, updL_n _ _ (by omega)]; exact ih m (by omega)
theorem within_nI {j n : Nat} (h : j < n) (hn : n < 2 ^ 31) : fX5_isWithin (nI j) (nI n) = true := by
  rw [x_within]
  exact decide_eq_true ⟨nI_pos' (by omega), nI_lt h hn⟩
theorem inb_of {x : Int32} {n : Nat} (hn : n < 2 ^ 31) (h : 0 ≤ x ∧ x < nI n) : inb x n := by
  obtain ⟨j, hj, rfl⟩ := (lt_nI hn).mp h
  exact inb_nI hj hn
theorem x_cnt_13 (S : XS) {k p : Nat} (hk : k < 16) (hp : p < 8) : fX0_countAt_13 (nI k) (nI p) S = some (xl S 13 (8 * k + p)) := by
  unfold fX0_countAt_13
  rw [bnd_s, x8', show (8 : Int32) = nI 8 from rfl, within_nI hp (by omega), if_neg (by decide), show (128 : Int32) = nI 128 from rfl, within_nI (show 8 * k + p < 128 by omega) (by omega), if_neg (by decide), ck_in (inb_nI (by omega) (by decide)), cl_nI (by omega)]
theorem x_cnt_any_13 (S : XS) (x y : Int32) : ∃ c, fX0_countAt_13 x y S = some c := by
  unfold fX0_countAt_13
  rw [bnd_s, if_bi, if_bi, show (128 : Int32) = nI 128 from rfl]
  by_cases h1 : fX5_isWithin y 8 = true
  · rw [if_pos h1]
    by_cases h2 : fX5_isWithin (x * 8 + y) (nI 128) = true
    · rw [if_pos h2, ck_in]
      · exact ⟨_, rfl⟩
      · rw [x_within] at h2
        exact inb_of (by decide) (of_decide_eq_true h2)
    · rw [if_neg h2]; exact ⟨_, rfl⟩
  · rw [if_neg h1]; exact ⟨_, rfl⟩
theorem x_step_no_13 {S : XS} {n : Nat} {sp : Nat → Bool} {o lk : Nat → Int32} (hn : n ≤ 16) (h : chX n sp o lk S) {k : Nat} (hk : k < n) (hs : sp k = false) (x l : Int32) (bf : Int64) : fX0_stepOver_13 (nI k) x l bf S = some (bf, S) := by
  unfold fX0_stepOver_13
  rw [x_hold h.1 hn, if_bid, if_pos ((lt_nI (by omega)).mpr ⟨k, hk, rfl⟩), ck_in (inb_nI (by omega) (by decide)), cl_nI (by omega), (h.2 k hk).1, hs, if_pos bi_f]
theorem x_step_13 {S : XS} {n : Nat} {sp : Nat → Bool} {o lk : Nat → Int32} (hn : n ≤ 16) (h : chX n sp o lk S) (ho8 : ∀ k, k < n → S8 (o k)) {k : Nat} (hk : k < n) (hs : sp k = true) (x l : Int32) (bf : Nat) (g v : Nat → Nat)
    (hnb : l = 0 ∨ ∃ k', k' < 16 ∧ k' ≠ k ∧ x = nI k' ∧ (∀ p, p < 8 → xl S 13 (8 * k' + p) = lN (g p)) ∧ ∀ p, p < 8 → g p ≤ bf)
    (hv : ∀ p, p < 8 → v p = if tb (o k) p = true then fitN l (g p) bf else 0) :
    fX0_stepOver_13 (nI k) x l (lN bf) S = some (lN (sumN v 8), rowX 13 (8 * k) v S 8) := by
  unfold fX0_stepOver_13
  rw [x_hold h.1 hn, if_bid, if_pos ((lt_nI (by omega)).mpr ⟨k, hk, rfl⟩), ck_in (inb_nI (by omega) (by decide)), cl_nI (by omega), (h.2 k hk).1, hs, if_neg (by decide)]
  refine lp_go _ (fun j => (nI k, x, l, lN bf, lN (sumN v j), nI j, rowX 13 (8 * k) v S j)) _ 8 (by omega) ?_ ?_
  · intro j hj k0
    have hC := rowX_same 13 (8 * k) v S j
    have hCo := rowX_out 13 (8 * k) v S j
    show bX0_stepOver_13_26 k0 (nI k) x l (lN bf) (lN (sumN v j)) (nI j) (rowX 13 (8 * k) v S j) = k0 (nI k, x, l, lN bf, lN (sumN v (j + 1)), nI (j + 1), xlW (rowX 13 (8 * k) v S j) 13 (8 * k + j) (lN (v j)))
    generalize rowX 13 (8 * k) v S j = C at hC hCo ⊢
    have hcC := sameY_ch hC h
    have e66 : ∀ w : Int64, w = lN (v j) → bX0_stepOver_13_66 k0 (nI k) x l (lN bf) (lN (sumN v j)) (nI j) w C = k0 (nI k, x, l, lN bf, lN (sumN v (j + 1)), nI (j + 1), xlW C 13 (8 * k + j) (lN (v j))) := by
      intro w hw
      unfold bX0_stepOver_13_66
      rw [bnd_s, x8', show (128 : Int32) = nI 128 from rfl, within_nI (show 8 * k + j < 128 by omega) (by omega), if_neg (by decide), ck_in (inb_nI (by omega) (by decide)), cl_nI (by omega), bnd_s, bnd_s, hw, lN_add, nI_1]
      rfl
    unfold bX0_stepOver_13_26
    rw [if_neg (ge8n hj), x_own hn hcC, ob1_s, rd_in o hn hk, x_bitOf hj]
    cases hb : tb (o k) j
    · rw [if_pos ((and_bit (by omega)).mpr hb)]
      refine e66 0 ?_
      rw [hv j hj, if_neg (by rw [hb]; simp)]; rfl
    · rw [if_neg (fun q => by rw [(and_bit (by omega)).mp q] at hb; cases hb)]
      rcases hnb with rfl | ⟨k', hk', hne, rfl, hg, hle⟩
      · obtain ⟨c, hc⟩ := x_cnt_any_13 C x (nI j)
        rw [hc, ob1_s, bnd_s, fit_0]
        refine e66 _ ?_
        rw [hv j hj, if_pos hb]; rfl
      · rw [x_cnt_13 C hk' hj, ob1_s, bnd_s, hCo _ (by omega), hg j hj, fit_lN (hle j hj)]
        refine e66 _ ?_
        rw [hv j hj, if_pos hb]
  · intro k0
    dsimp only
    unfold bX0_stepOver_13_26
    rw [if_pos ge8]
theorem x_cnt_14 (S : XS) {k p : Nat} (hk : k < 16) (hp : p < 8) : fX0_countAt_14 (nI k) (nI p) S = some (xl S 14 (8 * k + p)) := by
  unfold fX0_countAt_14
  rw [bnd_s, x8', show (8 : Int32) = nI 8 from rfl, within_nI hp (by omega), if_neg (by decide), show (128 : Int32) = nI 128 from rfl, within_nI (show 8 * k + p < 128 by omega) (by omega), if_neg (by decide), ck_in (inb_nI (by omega) (by decide)), cl_nI (by omega)]
theorem x_cnt_any_14 (S : XS) (x y : Int32) : ∃ c, fX0_countAt_14 x y S = some c := by
  unfold fX0_countAt_14
  rw [bnd_s, if_bi, if_bi, show (128 : Int32) = nI 128 from rfl]
  by_cases h1 : fX5_isWithin y 8 = true
  · rw [if_pos h1]
    by_cases h2 : fX5_isWithin (x * 8 + y) (nI 128) = true
    · rw [if_pos h2, ck_in]
      · exact ⟨_, rfl⟩
      · rw [x_within] at h2
        exact inb_of (by decide) (of_decide_eq_true h2)
    · rw [if_neg h2]; exact ⟨_, rfl⟩
  · rw [if_neg h1]; exact ⟨_, rfl⟩
theorem x_step_no_14 {S : XS} {n : Nat} {sp : Nat → Bool} {o lk : Nat → Int32} (hn : n ≤ 16) (h : chX n sp o lk S) {k : Nat} (hk : k < n) (hs : sp k = false) (x l : Int32) (bf : Int64) : fX0_stepOver_14 (nI k) x l bf S = some (bf, S) := by
  unfold fX0_stepOver_14
  rw [x_hold h.1 hn, if_bid, if_pos ((lt_nI (by omega)).mpr ⟨k, hk, rfl⟩), ck_in (inb_nI (by omega) (by decide)), cl_nI (by omega), (h.2 k hk).1, hs, if_pos bi_f]
theorem x_step_14 {S : XS} {n : Nat} {sp : Nat → Bool} {o lk : Nat → Int32} (hn : n ≤ 16) (h : chX n sp o lk S) (ho8 : ∀ k, k < n → S8 (o k)) {k : Nat} (hk : k < n) (hs : sp k = true) (x l : Int32) (bf : Nat) (g v : Nat → Nat)
    (hnb : l = 0 ∨ ∃ k', k' < 16 ∧ k' ≠ k ∧ x = nI k' ∧ (∀ p, p < 8 → xl S 14 (8 * k' + p) = lN (g p)) ∧ ∀ p, p < 8 → g p ≤ bf)
    (hv : ∀ p, p < 8 → v p = if tb (o k) p = true then fitN l (g p) bf else 0) :
    fX0_stepOver_14 (nI k) x l (lN bf) S = some (lN (sumN v 8), rowX 14 (8 * k) v S 8) := by
  unfold fX0_stepOver_14
  rw [x_hold h.1 hn, if_bid, if_pos ((lt_nI (by omega)).mpr ⟨k, hk, rfl⟩), ck_in (inb_nI (by omega) (by decide)), cl_nI (by omega), (h.2 k hk).1, hs, if_neg (by decide)]
  refine lp_go _ (fun j => (nI k, x, l, lN bf, lN (sumN v j), nI j, rowX 14 (8 * k) v S j)) _ 8 (by omega) ?_ ?_
  · intro j hj k0
    have hC := rowX_same 14 (8 * k) v S j
    have hCo := rowX_out 14 (8 * k) v S j
    show bX0_stepOver_14_26 k0 (nI k) x l (lN bf) (lN (sumN v j)) (nI j) (rowX 14 (8 * k) v S j) = k0 (nI k, x, l, lN bf, lN (sumN v (j + 1)), nI (j + 1), xlW (rowX 14 (8 * k) v S j) 14 (8 * k + j) (lN (v j)))
    generalize rowX 14 (8 * k) v S j = C at hC hCo ⊢
    have hcC := sameY_ch hC h
    have e66 : ∀ w : Int64, w = lN (v j) → bX0_stepOver_14_66 k0 (nI k) x l (lN bf) (lN (sumN v j)) (nI j) w C = k0 (nI k, x, l, lN bf, lN (sumN v (j + 1)), nI (j + 1), xlW C 14 (8 * k + j) (lN (v j))) := by
      intro w hw
      unfold bX0_stepOver_14_66
      rw [bnd_s, x8', show (128 : Int32) = nI 128 from rfl, within_nI (show 8 * k + j < 128 by omega) (by omega), if_neg (by decide), ck_in (inb_nI (by omega) (by decide)), cl_nI (by omega), bnd_s, bnd_s, hw, lN_add, nI_1]
      rfl
    unfold bX0_stepOver_14_26
    rw [if_neg (ge8n hj), x_own hn hcC, ob1_s, rd_in o hn hk, x_bitOf hj]
    cases hb : tb (o k) j
    · rw [if_pos ((and_bit (by omega)).mpr hb)]
      refine e66 0 ?_
      rw [hv j hj, if_neg (by rw [hb]; simp)]; rfl
    · rw [if_neg (fun q => by rw [(and_bit (by omega)).mp q] at hb; cases hb)]
      rcases hnb with rfl | ⟨k', hk', hne, rfl, hg, hle⟩
      · obtain ⟨c, hc⟩ := x_cnt_any_14 C x (nI j)
        rw [hc, ob1_s, bnd_s, fit_0]
        refine e66 _ ?_
        rw [hv j hj, if_pos hb]; rfl
      · rw [x_cnt_14 C hk' hj, ob1_s, bnd_s, hCo _ (by omega), hg j hj, fit_lN (hle j hj)]
        refine e66 _ ?_
        rw [hv j hj, if_pos hb]
  · intro k0
    dsimp only
    unfold bX0_stepOver_14_26
    rw [if_pos ge8]
/-- the heads: from b on, d paragraphs -/
theorem x_within_ways {S : XS} {n : Nat} {sp : Nat → Bool} {o lk : Nat → Int32} (hn : n ≤ 16) (h : chX n sp o lk S) (hlk : lkOk n sp lk) (ho8 : ∀ k, k < n → S8 (o k)) {b d : Nat} (hd : b + d ≤ n) : ∃ B, fX0_waysWithin (nI b) (nI (b + d) - 1) S = some (lN (upT sp o lk b d), B) ∧ sameY 13 S B ∧ (∀ i, i < d → sp (b + i) = true → ∀ q, q < 8 → xl B 13 (8 * (b + i) + q) = lN (upG sp o lk b i q)) := by
  have hcmp : ∀ j, j ≤ d → (nI (b + d) - 1 < nI (b + j) ↔ d ≤ j) := by
    intro j hj
    rw [Int32.lt_iff_toInt_lt, show (1 : Int32) = nI 1 from rfl, pk_sub_toInt (by omega) (by omega), nI_toInt (by omega)]
    omega
  unfold fX0_waysWithin
  refine lp_in _ (fun (j : Nat) (q : Int32 × Int32 × Int64 × Int32 × XS) => q.1 = nI b ∧ q.2.1 = nI (b + d) - 1 ∧ q.2.2.1 = lN (upT sp o lk b j) ∧ q.2.2.2.1 = nI (b + j) ∧ sameY 13 S q.2.2.2.2 ∧ (∀ i, i < j → sp (b + i) = true → ∀ p, p < 8 → xl q.2.2.2.2 13 (8 * (b + i) + p) = lN (upG sp o lk b i p)))
    (fun z => ∃ B, z = some (lN (upT sp o lk b d), B) ∧ sameY 13 S B ∧ (∀ i, i < d → sp (b + i) = true → ∀ q, q < 8 → xl B 13 (8 * (b + i) + q) = lN (upG sp o lk b i q))) d (by omega) (nI b, nI (b + d) - 1, 1, nI b, S) ⟨rfl, rfl, rfl, rfl, sameY_rfl _ _, fun i hi => by omega⟩ ?_ ?_
  · rintro j ⟨y1, y2, y3, y5, C⟩ hj ⟨e1, e2, e3, e5, hC, hCr⟩
    dsimp only at e1 e2 e3 e5 hC hCr
    subst e1; subst e2; subst e3; subst e5
    have hcC := sameY_ch hC h
    have hkn : b + j < n := by omega
    -- one step, by the link that it takes
    have step : ∃ B, (sameY 13 S B ∧ ∀ i, i < j + 1 → sp (b + i) = true → ∀ p, p < 8 → xl B 13 (8 * (b + i) + p) = lN (upG sp o lk b i p)) ∧ fX0_stepOver_13 (nI (b + j)) (nI (b + j) - 1) (if j = 0 then 0 else lk (b + j)) (lN (upT sp o lk b j)) C = some (lN (upT sp o lk b (j + 1)), B) := by
      cases hs : sp (b + j)
      · refine ⟨C, ⟨hC, ?_⟩, ?_⟩
        · intro i hi hsi p hp
          by_cases e : i = j
          · subst e; rw [hs] at hsi; cases hsi
          · exact hCr i (by omega) hsi p hp
        · have : upT sp o lk b (j + 1) = upT sp o lk b j := tW_skip (fun p => by show alB sp o (b + j) p = _; unfold alB; rw [hs]; rfl) (by
            by_cases e : j = 0
            · exact Or.inl e
            · exact Or.inr (hlk.2.2.1 _ hs).1)
          rw [x_step_no_13 hn hcC hkn hs, this]
      · have hal : ∀ p, alB sp o (b + j) p = tb (o (b + j)) p := fun p => by unfold alB; rw [hs]; rfl
        have hst : fX0_stepOver_13 (nI (b + j)) (nI (b + j) - 1) (if j = 0 then 0 else lk (b + j)) (lN (upT sp o lk b j)) C = some (lN (sumN (upG sp o lk b j) 8), rowX 13 (8 * (b + j)) (upG sp o lk b j) C 8) := by
          cases j with
          | zero =>
            refine x_step_13 hn hcC ho8 hkn hs _ _ _ (fun _ => 0) _ (Or.inl rfl) (fun p hp => ?_)
            rw [upG_0, ← hal p]; rfl
          | succ i =>
            rw [if_neg (by omega)]
            refine x_step_13 hn hcC ho8 hkn hs _ _ _ (upG sp o lk b i) _ ?_ (fun p hp => ?_)
            · by_cases hl0 : lk (b + (i + 1)) = 0
              · exact Or.inl hl0
              · have hsi : sp (b + i) = true := by
                  cases hq : sp (b + i)
                  · exact absurd (hlk.2.2.1 _ hq).2 hl0
                  · rfl
                refine Or.inr ⟨b + i, by omega, by omega, ?_, hCr i (by omega) hsi, fun p hp => ?_⟩
                · rw [show (1 : Int32) = nI 1 from rfl, pk_sub (by omega)]; rfl
                · exact le_sumN (upG sp o lk b i) hp
            · rw [← hal p]
              exact gW_step (hlk.1 _) hp
        have hB1 := rowX_same 13 (8 * (b + j)) (upG sp o lk b j) C 8
        have hB2 := rowX_at 13 (8 * (b + j)) (upG sp o lk b j) C 8
        have hB3 := rowX_out 13 (8 * (b + j)) (upG sp o lk b j) C 8
        refine ⟨_, ⟨sameY_trans hC hB1, ?_⟩, hst⟩
        intro i hi hsi p hp
        by_cases e : i = j
        · subst e; exact hB2 p hp
        · rw [hB3 _ (by omega)]; exact hCr i (by omega) hsi p hp
    obtain ⟨B, hB, hst⟩ := step
    refine ⟨(nI b, nI (b + d) - 1, lN (upT sp o lk b (j + 1)), nI (b + j + 1), B), ⟨rfl, rfl, rfl, rfl, hB.1, hB.2⟩, ?_⟩
    intro k0
    dsimp only
    unfold bX0_waysWithin_5
    rw [if_neg (fun q => by have := (hcmp j (by omega)).mp q; omega), x_lnk hn hcC, ob1_s, rd_in lk hn hkn]
    unfold bX0_waysWithin_27
    by_cases e : j = 0
    · subst e
      rw [if_pos rfl] at hst
      rw [if_pos (show nI (b + 0) = nI b from rfl), hst, ob2_s, nI_1]
    · rw [if_neg e] at hst
      rw [if_neg (show ¬ nI (b + j) = nI b from fun q => by have := (nI_eq (by omega) (by omega)).mp q; omega), hst, ob2_s, nI_1]
  · rintro ⟨y1, y2, y3, y5, C⟩ ⟨e1, e2, e3, e5, hC, hCr⟩
    dsimp only at e1 e2 e3 e5 hC hCr
    subst e1; subst e2; subst e3; subst e5
    refine ⟨_, ⟨C, rfl, hC, hCr⟩, ?_⟩
    intro k0
    dsimp only
    unfold bX0_waysWithin_5
    rw [if_pos ((hcmp d (Nat.le_refl _)).mpr (Nat.le_refl _))]
