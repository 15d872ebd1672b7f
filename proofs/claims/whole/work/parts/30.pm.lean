/-! asked, written -/
def moN (T : MS) (k : Nat) : Nat → Nat
  | 0 => 0
  | j + 1 => if tb (suT T k) j = true ∧ moN T k j < wwN (nT T) (spT T) (oT T) (lkT T) k j then wwN (nT T) (spT T) (oT T) (lkT T) k j else moN T k j
theorem moN_lt {T : MS} (hn : nT T ≤ 16) {k : Nat} (hk : k < nT T) (j : Nat) : moN T k j < 2 ^ 63 := by
  induction j with
  | zero => simp [moN]
  | succ j ih =>
    simp only [moN]
    by_cases q : tb (suT T k) j = true ∧ moN T k j < wwN (nT T) (spT T) (oT T) (lkT T) k j
    · rw [if_pos q]; exact wwN_le _ _ _ hn hk j
    · rw [if_neg q]; exact ih
def bsS (T : MS) : Nat → Int32 × Nat
  | 0 => (-9, 0)
  | j + 1 => if 2 ≤ sz (suT T j) ∧ ((bsS T j).1 = -9 ∨ moN T j 8 < (bsS T j).2) then (nI j, moN T j 8) else bsS T j
theorem bsS_lt {T : MS} (hn : nT T ≤ 16) (j : Nat) (hj : j ≤ nT T) : (bsS T j).2 < 2 ^ 63 := by
  induction j with
  | zero => simp [bsS]
  | succ j ih =>
    simp only [bsS]
    by_cases q : 2 ≤ sz (suT T j) ∧ ((bsS T j).1 = -9 ∨ moN T j 8 < (bsS T j).2)
    · rw [if_pos q]; exact moN_lt hn (by omega) 8
    · rw [if_neg q]; exact ih (by omega)
theorem x_most {S : XS} {T : MS} (hn : nT T ≤ 16) (hc : chX (nT T) (spT T) (oT T) (lkT T) S) (hw : waysX (nT T) (spT T) (oT T) (lkT T) S) {k : Nat} (hk : k < nT T) (hs : spT T k = true) : fX0_mostWaysLeft (nI k) S = some (lN (moN T k 8)) := by
  unfold fX0_mostWaysLeft
  refine lp_go _ (fun j => (nI k, lN (moN T k j), nI j, S)) _ 8 (by omega) ?_ ?_
  · intro p hp k0
    dsimp only
    unfold bX0_mostWaysLeft_5
    have h1 := wwN_le (spT T) (oT T) (lkT T) hn hk p
    have h2 := moN_lt hn hk p
    rw [if_neg (ge8n hp), x_through hn hc hw hk hp, ob1_s, if_pos hs, bnd_s, nI_1]
    simp only [moN]
    have ht := tb_suN (n := nT T) (spT T) (oT T) (lkT T) k hp
    by_cases q : moN T k p < wwN (nT T) (spT T) (oT T) (lkT T) k p
    · rw [if_neg (fun z => by have := (pk_lLT h1 h2).mp z; omega), if_pos ⟨ht.mpr ⟨hs, by omega⟩, q⟩]
    · have hno : ¬ (tb (suT T k) p = true ∧ moN T k p < wwN (nT T) (spT T) (oT T) (lkT T) k p) := fun z => q z.2
      rw [if_neg hno]
      by_cases q2 : wwN (nT T) (spT T) (oT T) (lkT T) k p < moN T k p
      · rw [if_pos ((pk_lLT h1 h2).mpr q2)]
      · rw [if_neg (fun z => q2 ((pk_lLT h1 h2).mp z)), show wwN (nT T) (spT T) (oT T) (lkT T) k p = moN T k p from by omega]
  · intro k0
    dsimp only
    unfold bX0_mostWaysLeft_5
    rw [if_pos ge8]
theorem su_no {T : MS} {k : Nat} (h : spT T k = false) : suT T k = 0 := by
  refine S8.ext (S8_suN _ _ _ _ _) S8_0 (fun p hp => ?_)
  rw [tb_0]
  cases hb : tb (suN (nT T) (spT T) (oT T) (lkT T) k) p
  · rfl
  · have := ((tb_suN (spT T) (oT T) (lkT T) k hp).mp hb).1
    rw [h] at this; cases this
theorem sim_asked {S : XS} {T : MS} (h : Rel S T) : ∃ r S' T', fX5_asked S = some (r, S') ∧ fX6_asked T = some (r, T') ∧ Rel S' T' := by
  have hn := h.1.1
  obtain ⟨⟨B, h1, hRB, hcB, hwB, hsB⟩, C, h2, hsC⟩ := both_sure h
  have h3 : mi C 3 = nI (nT T) := by rw [hsC.1.1 3 (by omega)]; exact hn.1
  have hx : lp (fun k q => bX5_asked_20 k q.1 q.2.1 q.2.2.1 q.2.2.2) FU ((-9), 0, 0, B) = some ((bsS T (nT T)).1, B) := by
    refine lp_go _ (fun j => ((bsS T j).1, lN (bsS T j).2, nI j, B)) _ (nT T) (by omega) ?_ ?_
    · intro j hj k0
      dsimp only
      unfold bX5_asked_20 fX3_length
      rw [hRB.2.2.2.2.2.2.2.1, hn.1, if_neg (nI_ge hj (by omega)), x_sur hsB.1 hn.2, ob1_s, rd_in _ hn.2 hj, hsB.2 j hj, x_bc (S8_suN _ _ _ _ _), nI_1]
      have hz := sz_le (suN (nT T) (spT T) (oT T) (lkT T) j)
      simp only [bsS]
      by_cases q : 2 ≤ sz (suT T j)
      · have hs : spT T j = true := by
          cases hq : spT T j
          · rw [su_no hq] at q; exact absurd q (by decide)
          · rfl
        rw [if_neg (show ¬ nI (sz (suN (nT T) (spT T) (oT T) (lkT T) j)) < 2 from nI_nlt (b := 2) q (by omega)), x_most hn.2 hcB hwB hj hs, ob1_s]
        have l1 := moN_lt hn.2 hj 8
        have l2 := bsS_lt hn.2 j (by omega)
        by_cases q1 : (bsS T j).1 = -9
        · rw [if_pos q1, if_pos ⟨q, Or.inl q1⟩]
        · rw [if_neg q1]
          by_cases q2 : moN T j 8 < (bsS T j).2
          · rw [if_neg (fun z => by have := (pk_lLE l2 l1).mp ((lg_cmp_ge _ _).mp z); omega), if_pos ⟨q, Or.inr q2⟩]
          · rw [if_pos ((lg_cmp_ge _ _).mpr ((pk_lLE l2 l1).mpr (by omega))), if_neg (fun z => by rcases z.2 with z | z; exact q1 z; exact q2 z)]
      · rw [if_pos (show nI (sz (suN (nT T) (spT T) (oT T) (lkT T) j)) < 2 from nI_lt (b := 2) (Nat.lt_of_not_le q) (by omega)), if_neg (fun z => q z.1)]
    · intro k0
      dsimp only
      unfold bX5_asked_20 fX3_length
      rw [hRB.2.2.2.2.2.2.2.1, hn.1, if_pos (nI_le (Nat.le_refl _) (by omega))]
  have hm : lp (fun k q => bX6_asked_12 k q.1 q.2.1 q.2.2.1 q.2.2.2) FU ((-9), 0, 0, C) = some ((bsS T (nT T)).1, C) := by
    refine lp_go _ (fun j => ((bsS T j).1, lN (bsS T j).2, nI j, C)) _ (nT T) (by omega) ?_ ?_
    · intro j hj k0
      dsimp only
      unfold bX6_asked_12
      rw [h3, if_neg (nI_ge hj (by omega))]
      refine lp_go _ (fun p => ((bsS T j).1, lN (bsS T j).2, nI j, lN (moN T j p), nI p, C)) _ 8 (by omega) ?_ ?_
      · intro p hp kk
        dsimp only
        have e68 : ∀ b : Bool, (b = true → (if tb (suT T j) p = true ∧ moN T j p < wwN (nT T) (spT T) (oT T) (lkT T) j p then wwN (nT T) (spT T) (oT T) (lkT T) j p else moN T j p) = wwN (nT T) (spT T) (oT T) (lkT T) j p) → (b = false → (if tb (suT T j) p = true ∧ moN T j p < wwN (nT T) (spT T) (oT T) (lkT T) j p then wwN (nT T) (spT T) (oT T) (lkT T) j p else moN T j p) = moN T j p) → bX6_asked_68 k0 kk (bsS T j).1 (lN (bsS T j).2) (nI j) (lN (moN T j p)) (nI p) b C = kk ((bsS T j).1, lN (bsS T j).2, nI j, lN (moN T j (p + 1)), nI (p + 1), C) := by
          intro b hb1 hb2
          unfold bX6_asked_68
          rw [m_waysWith h.1 hsC.2.1 hj hp, ob1_s, if_bi, nI_1]
          simp only [moN]
          cases b
          · rw [if_neg (by simp), hb2 rfl]
          · rw [if_pos rfl, hb1 rfl]
        unfold bX6_asked_27
        have l1 := wwN_le (spT T) (oT T) (lkT T) hn.2 hj p
        have l2 := moN_lt hn.2 hj p
        rw [if_neg (ge8n hp), ck_in (inb_nI (by omega) (by decide)), cl_nI (by omega), hsC.2.2 j hj, has_nI _ (by omega), if_bi, m_waysWith h.1 hsC.2.1 hj hp, ob1_s]
        cases ht : tb (suT T j) p
        · rw [if_neg (by simp)]
          exact e68 false (fun z => by cases z) (fun _ => by rw [if_neg (fun z => by rw [ht] at z; exact absurd z.1 (by simp))])
        · rw [if_pos rfl]
          by_cases q : moN T j p < wwN (nT T) (spT T) (oT T) (lkT T) j p
          · rw [if_neg (fun z => by have := (pk_lLE l1 l2).mp ((lg_cmp_le _ _).mp z); omega)]
            exact e68 true (fun _ => by rw [if_pos ⟨ht, q⟩]) (fun z => by cases z)
          · rw [if_pos ((lg_cmp_le _ _).mpr ((pk_lLE l1 l2).mpr (by omega)))]
            exact e68 false (fun z => by cases z) (fun _ => by rw [if_neg (fun z => q z.2)])
      · intro kk
        dsimp only
        unfold bX6_asked_27
        have hz := sz_le (suT T j)
        have l1 := moN_lt hn.2 hj 8
        have l2 := bsS_lt hn.2 j (by omega)
        rw [if_pos ge8, ck_in (inb_nI (by omega) (by decide)), cl_nI (by omega), hsC.2.2 j hj, m_size, ob1_s, nI_1]
        simp only [bsS]
        by_cases q : 2 ≤ sz (suT T j)
        · rw [if_neg (show ¬ nI (sz (suT T j)) ≤ 1 from nI_ge (a := 1) (by omega) (by omega))]
          by_cases q1 : (bsS T j).1 = -9
          · rw [if_pos q1, if_pos ⟨q, Or.inl q1⟩]
          · rw [if_neg q1]
            by_cases q2 : moN T j 8 < (bsS T j).2
            · rw [if_neg (fun z => by have := (pk_lLE l2 l1).mp ((lg_cmp_ge _ _).mp z); omega), if_pos ⟨q, Or.inr q2⟩]
            · rw [if_pos ((lg_cmp_ge _ _).mpr ((pk_lLE l2 l1).mpr (by omega))), if_neg (fun z => by rcases z.2 with z | z; exact q1 z; exact q2 z)]
        · rw [if_pos (show nI (sz (suT T j)) ≤ 1 from nI_le (b := 1) (by omega) (by omega)), if_neg (fun z => q z.1)]
    · intro k0
      dsimp only
      unfold bX6_asked_12
      rw [h3, if_pos (nI_le (Nat.le_refl _) (by omega))]
  unfold fX5_asked fX6_asked
  rw [x_fill h, ob1_s, h1, ob2_s, h2, ob1_s, hx, hm]
  exact ⟨_, _, _, rfl, rfl, Rel_cor hRB (corX_rfl _) hsC.1⟩
/-- the member of a set that has so many ahead of it -/
theorem nth_ex (P : Nat → Bool) {m n : Nat} (h : m < cntN P n) : ∃ p, p < n ∧ P p = true ∧ cntN P p = m := by
  induction n with
  | zero => simp [cntN] at h
  | succ n ih =>
    by_cases q : m < cntN P n
    · obtain ⟨p, h1, h2, h3⟩ := ih q
      exact ⟨p, by omega, h2, h3⟩
    · cases hp : P n
      · rw [cntN_f hp] at h; omega
      · rw [cntN_t hp] at h
        exact ⟨n, by omega, hp, by omega⟩
theorem cntN_step (P : Nat → Bool) {i j : Nat} (hij : i < j) (hp : P i = true) : cntN P i < cntN P j := by
  have h1 : cntN P (i + 1) ≤ cntN P j := by
    induction j with
    | zero => omega
    | succ j ih =>
      by_cases e : i = j
      · subst e; exact Nat.le_refl _
      · have := ih (by omega)
        simp only [cntN] at this ⊢
        omega
  rw [cntN_t hp] at h1
  omega
theorem x_member {s : Int32} {m : Nat} (hm : m < sz s) : ∃ p, p < 8 ∧ tb s p = true ∧ cntN (fun p => tb s p) p = m ∧ fX5_memberOf s (nI m) = some (nI p) := by
  have hz := sz_le s
  obtain ⟨p, hp, hb, hc⟩ := nth_ex (fun p => tb s p) hm
  refine ⟨p, hp, hb, hc, ?_⟩
  unfold fX5_memberOf
  refine lp_go _ (fun j => (s, nI m, nI (cntN (fun p => tb s p) j), nI j)) _ p (by omega) ?_ ?_
  · intro j hj k0
    dsimp only
    unfold bX5_memberOf_4
    have hle := cntN_le (fun p => tb s p) j
    rw [if_neg (ge8n (by omega)), x_bitOf (by omega), nI_1, nI_1]
    cases hq : tb s j
    · rw [if_pos ((and_bit (by omega)).mpr hq), cntN_f (P := fun p => tb s p) hq]
    · have := cntN_step (fun p => tb s p) hj hq
      rw [if_neg (fun z => by rw [(and_bit (by omega)).mp z] at hq; cases hq), if_neg (fun z => by have := (nI_eq (by omega) (by omega)).mp z; omega), cntN_t (P := fun p => tb s p) hq]
  · intro k0
    dsimp only
    unfold bX5_memberOf_4
    rw [if_neg (ge8n hp), x_bitOf hp, if_neg (fun z => by rw [(and_bit (by omega)).mp z] at hb; cases hb), hc, if_pos rfl]
/-- what the reference writes of a set -/
theorem m_text {T E : MS} {k : Nat} (hk : k < 16) (s : Int32) (hs : ma E 10 k = s) : ∃ E', lp (fun k q => bX6_writes_48 k q.1 q.2.1 q.2.2.1 q.2.2.2) FU (nI k, 0, 0, E) = some (nI (2 * sz s - 1), E') ∧ frM (fun a => a = 16) E E' ∧ (∀ p, p < 8 → tb s p = true → ma E' 16 (2 * cntN (fun p => tb s p) p) = 65 + nI p) ∧ ∀ m, 1 ≤ m → m < sz s → ma E' 16 (2 * m - 1) = 47 := by
  refine lp_in _ (fun (j : Nat) (q : Int32 × Int32 × Int32 × MS) => q.1 = nI k ∧ q.2.1 = nI (2 * cntN (fun p => tb s p) j - 1) ∧ q.2.2.1 = nI j ∧ frM (fun a => a = 16) E q.2.2.2 ∧ (∀ p, p < j → tb s p = true → ma q.2.2.2 16 (2 * cntN (fun p => tb s p) p) = 65 + nI p) ∧ ∀ m, 1 ≤ m → m < cntN (fun p => tb s p) j → ma q.2.2.2 16 (2 * m - 1) = 47) (fun z => ∃ E', z = some (nI (2 * sz s - 1), E') ∧ frM (fun a => a = 16) E E' ∧ (∀ p, p < 8 → tb s p = true → ma E' 16 (2 * cntN (fun p => tb s p) p) = 65 + nI p) ∧ ∀ m, 1 ≤ m → m < sz s → ma E' 16 (2 * m - 1) = 47) 8 (by omega) (nI k, 0, 0, E) ⟨rfl, rfl, rfl, frM_rfl _ _, fun p hp => by omega, fun m _ h2 => by simp [cntN] at h2⟩ ?_ ?_
  · rintro j ⟨y1, y2, y3, A⟩ hj ⟨e1, e2, e3, hA, hP, hM⟩
    dsimp only at e1 e2 e3 hA hP hM
    subst e1; subst e2; subst e3
    have hA10 : ma A 10 k = s := by rw [hA.2 10 (by decide)]; exact hs
    have hle := cntN_le (fun p => tb s p) j
    cases hb : tb s j
    · refine ⟨(nI k, nI (2 * cntN (fun p => tb s p) j - 1), nI (j + 1), A), ⟨rfl, ?_, rfl, hA, ?_, ?_⟩, ?_⟩
      · show nI _ = nI _
        rw [cntN_f (P := fun p => tb s p) hb]
      · intro p hp hbp
        by_cases e : p = j
        · subst e; rw [hb] at hbp; cases hbp
        · exact hP p (by omega) hbp
      · intro m h1 h2
        rw [cntN_f (P := fun p => tb s p) hb] at h2
        exact hM m h1 h2
      · intro k0
        dsimp only
        unfold bX6_writes_48
        rw [if_neg (ge8n hj), ck_in (inb_nI hk (by decide)), cl_nI (by omega), hA10, has_nI _ (by omega), if_bi, if_neg (by rw [hb]; simp), nI_1]
    · -- with a sign between, if it is not the first
      by_cases hc : cntN (fun p => tb s p) j = 0
      · refine ⟨(nI k, nI 1, nI (j + 1), maW A 16 0 (65 + nI j)), ⟨rfl, ?_, rfl, frM_trans hA (frM_ma (P := fun a => a = 16) A (a := 16) rfl _ _), ?_, ?_⟩, ?_⟩
        · show nI 1 = nI _
          rw [cntN_t (P := fun p => tb s p) hb, hc]
        · intro p hp hbp
          show ma (maW A 16 0 _) 16 _ = _
          by_cases e : p = j
          · subst e; rw [hc, ma_maW]; exact upd_s _ _ _
          · have := cntN_step (fun p => tb s p) (show p < j by omega) hbp
            omega
        · intro m h1 h2
          rw [cntN_t (P := fun p => tb s p) hb, hc] at h2
          omega
        · intro k0
          dsimp only
          unfold bX6_writes_48 bX6_writes_82
          rw [if_neg (ge8n hj), ck_in (inb_nI hk (by decide)), cl_nI (show k < 2 ^ 31 by omega), hA10, has_nI _ (by omega), if_bi, if_pos hb, hc, if_pos (show nI (2 * 0 - 1) ≤ 0 from by decide), ck_in (show inb (nI (2 * 0 - 1)) 16 from inb_nI (j := 0) (by omega) (by decide)), bnd_s, nI_1, nI_1]
          rfl
      · let A1 := maW A 16 (2 * cntN (fun p => tb s p) j - 1) 47
        refine ⟨(nI k, nI (2 * cntN (fun p => tb s p) j + 1), nI (j + 1), maW A1 16 (2 * cntN (fun p => tb s p) j) (65 + nI j)), ⟨rfl, ?_, rfl, frM_trans hA (frM_trans (frM_ma (P := fun a => a = 16) A (a := 16) rfl _ _) (frM_ma (P := fun a => a = 16) A1 (a := 16) rfl _ _)), ?_, ?_⟩, ?_⟩
        · show nI _ = nI _
          rw [cntN_t (P := fun p => tb s p) hb]
          congr 1
        · intro p hp hbp
          show ma (maW A1 16 _ _) 16 _ = _
          rw [ma_maW]
          by_cases e : p = j
          · subst e; rw [upd_s]
          · have := cntN_step (fun p => tb s p) (show p < j by omega) hbp
            rw [upd_n _ _ (by omega), show ma A1 16 = upd (ma A 16) (2 * cntN (fun p => tb s p) j - 1) 47 from ma_maW A 16 _ _, upd_n _ _ (by omega)]
            exact hP p (by omega) hbp
        · intro m h1 h2
          rw [cntN_t (P := fun p => tb s p) hb] at h2
          show ma (maW A1 16 _ _) 16 _ = _
          rw [ma_maW, upd_n _ _ (by omega), show ma A1 16 = upd (ma A 16) (2 * cntN (fun p => tb s p) j - 1) 47 from ma_maW A 16 _ _]
          by_cases e : m = cntN (fun p => tb s p) j
          · subst e; rw [upd_s]
          · rw [upd_n _ _ (by omega)]; exact hM m h1 (by omega)
        · intro k0
          dsimp only
          unfold bX6_writes_48 bX6_writes_82
          rw [if_neg (ge8n hj), ck_in (inb_nI hk (by decide)), cl_nI (show k < 2 ^ 31 by omega), hA10, has_nI _ (by omega), if_bi, if_pos hb, if_neg (show ¬ nI (2 * cntN (fun p => tb s p) j - 1) ≤ 0 from nI_nle (by omega) (by omega)), ck_in (inb_nI (by omega) (by decide)), cl_nI (by omega), bnd_s, nI_1, show 2 * cntN (fun p => tb s p) j - 1 + 1 = 2 * cntN (fun p => tb s p) j from by omega, ck_in (inb_nI (by omega) (by decide)), cl_nI (by omega), bnd_s, nI_1, nI_1]
  · rintro ⟨y1, y2, y3, A⟩ ⟨e1, e2, e3, hA, hP, hM⟩
    dsimp only at e1 e2 e3 hA hP hM
    subst e1; subst e2; subst e3
    refine ⟨_, ⟨A, rfl, hA, hP, hM⟩, ?_⟩
    intro k0
    dsimp only
    unfold bX6_writes_48
    rw [if_pos ge8]
    rfl
