/-! hint, conflict -/
theorem cntN_t {P : Nat → Bool} {j : Nat} (h : P j = true) : cntN P (j + 1) = cntN P j + 1 := by simp only [cntN]; rw [if_pos h]
theorem cntN_f {P : Nat → Bool} {j : Nat} (h : P j = false) : cntN P (j + 1) = cntN P j := by simp only [cntN]; rw [if_neg (by rw [h]; simp)]; rfl
theorem filX_a (S : XS) (T : MS) {a : Nat} (h8 : a ≠ 8) (h9 : a ≠ 9) (h10 : a ≠ 10) (j : Nat) : xa (filX S T j) a = xa S a := by
  induction j with
  | zero => rfl
  | succ j ih =>
    simp only [filX, xa_xiW]
    rw [xa_xaW' _ _ _ h10, xa_xaW' _ _ _ h9, xa_xaW' _ _ _ h8]
    exact ih
theorem rel_hint {S : XS} {T : MS} (h : Rel S T) {k : Nat} (hk : k < nT T) (v : Int32) (hv : v = -9 ∨ S8 v) : Rel (xpW S k 5 v) (maW T 8 k v) := by
  obtain ⟨⟨hn, ht, hst, hh, hru, hro⟩, x0, x1, x2, x3, x4, x5, x6, x7, x8⟩ := h
  have ao : ∀ a, a ≠ 8 → ma (maW T 8 k v) a = ma T a := fun a ha => ma_maW' T k v ha
  have a8 : ma (maW T 8 k v) 8 = upd (ma T 8) k v := ma_maW T 8 k v
  have hrow : ∀ i, rowEq T (maW T 8 k v) i := fun i => rowEq_of i (ao 3 (by decide)) (ao 4 (by decide)) (ao 5 (by decide))
  have hth : thT (maW T 8 k v) = thT T := by
    have : thB (maW T 8 k v) = thB T := by funext p; unfold thB; rw [ao 1 (by decide)]
    unfold thT; rw [this]
  have hp5 : xp (xpW S k 5 v) k 5 = v := by
    show (va_up S.2.2.2 k _ k).1 5 = v
    unfold va_up
    rw [if_pos rfl]
    show (if (5 : Nat) = 5 then v else (S.2.2.2 k).1 5) = v
    rw [if_pos rfl]
  have hpo : ∀ j, j ≠ 5 → xp (xpW S k 5 v) k j = xp S k j := by
    intro j hj
    show (va_up S.2.2.2 k _ k).1 j = _
    unfold va_up
    rw [if_pos rfl]
    show (if j = 5 then v else (S.2.2.2 k).1 j) = _
    rw [if_neg hj]; rfl
  have hpi : ∀ i j, i ≠ k → xp (xpW S k 5 v) i j = xp S i j := by
    intro i j hi
    show (va_up S.2.2.2 k _ i).1 j = _
    unfold va_up
    rw [if_neg hi]; rfl
  refine ⟨⟨hn, ht, ?_, hh, hru, ?_⟩, x0, x1, by rw [hth]; exact x2, ?_, x4, ?_, x6, ?_, ?_⟩
  · intro p hp; rw [ao 1 (by decide)]; exact hst p hp
  · intro i hi
    refine ⟨row_ok (hro i hi).1 (hrow i), ?_⟩
    have := (hro i hi).2
    unfold rowMore at this ⊢
    rw [ao 6 (by decide), ao 7 (by decide), a8]
    by_cases e : i = k
    · subst e; rw [upd_s]; exact ⟨this.1, this.2.1, hv⟩
    · rw [upd_n _ _ e]; exact this
  · intro p hp; rw [ao 1 (by decide)]; exact x3 p hp
  · intro j hj; rw [ao 2 (by decide)]; exact x5 j hj
  · intro i hi
    by_cases e : i = k
    · subst e
      obtain ⟨q1, q2, q3, q4, q5, q6, q7, q8⟩ := row_eqs (hro i hi).1 (hrow i)
      have hp := x7 i hi
      unfold parR at hp ⊢
      rw [hp5, hpo 2 (by decide), hpo 3 (by decide), hpo 4 (by decide), hpo 6 (by decide), hpo 7 (by decide), hpo 8 (by decide), hpo 9 (by decide), hpo 10 (by decide), hpo 11 (by decide), hpo 12 (by decide), hpo 13 (by decide), ao 3 (by decide), ao 6 (by decide), ao 7 (by decide), a8, upd_s, q1, q2, q3, q4, q5, q6, q7, q8]
      exact ⟨hp.1, hp.2.1, hp.2.2.1, rfl, hp.2.2.2.2⟩
    · exact par_row (hro i hi).1 (hrow i) (congrFun (ao 6 (by decide)) i) (congrFun (ao 7 (by decide)) i) (by rw [a8, upd_n _ _ e]) (fun j => hpi i j e) (x7 i hi)
  · rw [hpi 16 6 (by omega)]; exact x8
theorem x_keep {S : XS} {T : MS} (h : Rel S T) {R : Nat} (hR : R ≤ 128) (hend : chgB (nT T) (lkT T) (nit (nT T) (lkT T) (oT T) R) = false) (hgo : ∀ r, r < R → chgB (nT T) (lkT T) (nit (nT T) (lkT T) (oT T) r) = true) : ∃ B, fX5_keepNarrowedSets S = some B ∧ Rel B T ∧ ∀ k, k < 16 → xa B 16 k = ex0 (nT T) (nit (nT T) (lkT T) (oT T) (R + 1)) k := by
  have hn := h.1.1
  obtain ⟨N, h1, hRN, -, h5, h11⟩ := x_narAll h hR hend hgo
  unfold fX5_keepNarrowedSets
  rw [x_fill h, ob1_s, h1, ob1_s]
  refine lp_ex _ (fun (j : Nat) (q : Int32 × XS) => q.1 = nI j ∧ frX (fun a => a = 16) N q.2 ∧ ∀ k, k < j → xa q.2 16 k = ex0 (nT T) (nit (nT T) (lkT T) (oT T) (R + 1)) k) _ 16 (by omega) (0, N) ⟨rfl, frX_rfl _ _, fun k hk => by omega⟩ ?_ ?_
  · rintro j ⟨x, A⟩ hj ⟨e, hA, hAr⟩
    dsimp only at e hA hAr
    subst e
    have hA5 : xi A 5 = nI (nT T) := by rw [hA.1]; exact h5
    have hA11 : xa A 11 = xa N 11 := hA.2.2 11 (by decide)
    refine ⟨(nI (j + 1), xaW A 16 j (ex0 (nT T) (nit (nT T) (lkT T) (oT T) (R + 1)) j)), ⟨rfl, frX_trans hA (frX_xa (P := fun a => a = 16) A (a := 16) rfl _ _), ?_⟩, ?_⟩
    · intro k hk
      show xa (xaW A 16 j _) 16 k = _
      rw [xa_xaW]
      by_cases e : k = j
      · subst e; rw [upd_s]
      · rw [upd_n _ _ e]; exact hAr k (by omega)
    · intro k0
      dsimp only
      unfold bX5_keepNarrowedSets_13
      have : rd (nT T) (xa A 11) (nI j) = ex0 (nT T) (nit (nT T) (lkT T) (oT T) (R + 1)) j := by
        rw [hA11]
        by_cases q : j < nT T
        · rw [rd_in _ hn.2 q, h11 j hj]
        · rw [rd_ge _ hn.2 (by omega) (by omega)]; unfold ex0; rw [if_neg q]
      rw [if_neg (ge16n hj), x_nar hA5 hn.2, ob1_s, this, ck_in (inb_nI hj (by decide)), cl_nI (by omega), bnd_s, nI_1]
  · rintro ⟨x, A⟩ ⟨e, hA, hAr⟩
    dsimp only at e hA hAr
    subst e
    refine ⟨_, ⟨A, rfl, Rel_cor hRN (frX_cor hA (fun a e => by have e : a = 16 := e; omega)) (cor_rfl T), hAr⟩, ?_⟩
    intro k0
    dsimp only
    unfold bX5_keepNarrowedSets_13
    rw [if_pos ge16]
theorem x_changed {S : XS} {T : MS} (h : Rel S T) (f : Nat → Int32) (hf : ∀ k, k < 16 → xa S 16 k = ex0 (nT T) f k) {R : Nat} (hR : R ≤ 128) (hend : chgB (nT T) (lkT T) (nit (nT T) (lkT T) (oT T) R) = false) (hgo : ∀ r, r < R → chgB (nT T) (lkT T) (nit (nT T) (lkT T) (oT T) r) = true) : ∃ B, fX5_changedNarrowedSets S = some (nI (cntN (fun k => decide (nit (nT T) (lkT T) (oT T) (R + 1) k ≠ f k)) (nT T)), B) ∧ Rel B T := by
  have hn := h.1.1
  obtain ⟨N, h1, hRN, hfN, h5, h11⟩ := x_narAll h hR hend hgo
  have h16 : ∀ k, k < 16 → xa N 16 k = ex0 (nT T) f k := fun k hk => by
    rw [hfN.2.2 16 (by rintro (e | e) <;> omega), filX_a S T (by decide) (by decide) (by decide)]
    exact hf k hk
  let g : Nat → Int32 := nit (nT T) (lkT T) (oT T) (R + 1)
  have hcnt : cntN (fun k => decide (ex0 (nT T) g k ≠ ex0 (nT T) f k)) 16 = cntN (fun k => decide (g k ≠ f k)) (nT T) := by
    have aux : ∀ j, nT T ≤ j → cntN (fun k => decide (ex0 (nT T) g k ≠ ex0 (nT T) f k)) j = cntN (fun k => decide (g k ≠ f k)) (nT T) := by
      intro j hj
      induction j with
      | zero => have : nT T = 0 := by omega
                rw [this]; rfl
      | succ j ih =>
        by_cases e : nT T = j + 1
        · rw [e]
          refine cntN_cong _ (fun i hi => ?_)
          unfold ex0
          rw [← e, if_pos (by omega), if_pos (by omega)]
        · have : ex0 (nT T) g j = ex0 (nT T) f j := by unfold ex0; rw [if_neg (by omega), if_neg (by omega)]
          rw [cntN_f (by simp [this]), ih (by omega)]
    exact aux 16 hn.2
  refine ⟨N, ?_, hRN⟩
  unfold fX5_changedNarrowedSets
  rw [x_fill h, ob1_s, h1, ob1_s, ← hcnt]
  refine lp_go _ (fun j => (nI (cntN (fun k => decide (ex0 (nT T) g k ≠ ex0 (nT T) f k)) j), nI j, N)) _ 16 (by omega) ?_ ?_
  · intro j hj k0
    dsimp only
    unfold bX5_changedNarrowedSets_15
    have : rd (nT T) (xa N 11) (nI j) = ex0 (nT T) g j := by
      by_cases q : j < nT T
      · rw [rd_in _ hn.2 q, h11 j hj]
      · rw [rd_ge _ hn.2 (by omega) (by omega)]; unfold ex0; rw [if_neg q]
    rw [if_neg (ge16n hj), ck_in (inb_nI hj (by decide)), x_nar h5 hn.2, ob1_s, this, cl_nI (by omega), h16 j hj, nI_1, nI_1]
    by_cases q : ex0 (nT T) f j = ex0 (nT T) g j
    · rw [if_pos q, cntN_f (by simp [q])]
    · rw [if_neg q, cntN_t (by rw [decide_eq_true_iff]; exact fun z => q z.symm)]
  · intro k0
    dsimp only
    unfold bX5_changedNarrowedSets_15
    rw [if_pos ge16]
theorem sim_hint {S : XS} {T : MS} (h : Rel S T) (x v : Int32) : ∃ r S' T', fX5_hint x v S = some (r, S') ∧ fX6_hint x v T = some (r, T') ∧ Rel S' T' := by
  have hn := h.1.1
  unfold fX5_hint fX6_hint
  rw [x_holds h, m_isPar h.1, if_bid, if_bid, within_eq, if_bid]
  by_cases hx : 0 ≤ x ∧ x < nI (nT T)
  · rw [if_pos hx, if_pos hx]
    obtain ⟨k, hk, rfl⟩ := (par_in T x hn.2).mp hx
    have main : (v = -9 ∨ S8 v) → ∃ r S' T', bX5_hint_34 (nI k) v S = some (r, S') ∧ bX6_hint_30 (nI k) v T = some (r, T') ∧ Rel S' T' := by
      intro hv
      unfold bX5_hint_34 bX6_hint_30
      rw [x_par h hk, ob1_s, x_speaks h hk, ob1_s, m_speaks T (by omega) (h.1.2.2.2.2.2 k hk).1, ob1_s, if_bi, if_bi]
      cases hs : spT T k
      · exact ⟨_, _, _, rfl, rfl, h⟩
      · rw [if_pos rfl, if_pos rfl]
        obtain ⟨R, hR, hend, hgo⟩ := nar_R h.1
        -- the class
        obtain ⟨B, hB, hRB, h16⟩ := x_keep h hR hend hgo
        have hth : fX1_takeHint k v B = some (xpW B k 5 v) := by
          unfold fX1_takeHint
          rw [if_pos (by omega), bnd_s]
        have hRel2 := rel_hint hRB hk v hv
        obtain ⟨R2, hR2, hend2, hgo2⟩ := nar_R hRel2.1
        obtain ⟨C, hC, hRC⟩ := x_changed hRel2 (nit (nT T) (lkT T) (oT T) (R + 1)) h16 hR2 hend2 hgo2
        rw [hB, ob1_s, hth, ob1_s, hC, ob2_s]
        -- the reference
        obtain ⟨N, hN, hfN, -, -, hnar⟩ := m_findNarrowed h.1 hR hend hgo
        have hcN : cor T N := frM_cor hfN (fun a e => by rcases e with e | e | e <;> omega)
        have hnN : mi N 3 = nI (nT T) := by rw [hcN.1 3 (by omega)]; exact hn.1
        rw [hN, ob1_s]
        -- what it kept, then what it counts
        have hloop : ∃ T', lp (fun k q => bX6_hint_47 k q.1 q.2.1 q.2.2.1 q.2.2.2) FU (nI k, v, 0, N) = some (nI (cntN (fun i => decide (nit (nT (maW T 8 k v)) (lkT (maW T 8 k v)) (oT (maW T 8 k v)) (R2 + 1) i ≠ nit (nT T) (lkT T) (oT T) (R + 1) i)) (nT T)), T') ∧ cor (maW T 8 k v) T' := by
          refine lp_in _ (fun (j : Nat) (q : Int32 × Int32 × Int32 × MS) => q.1 = nI k ∧ q.2.1 = v ∧ q.2.2.1 = nI j ∧ frM (fun a => a = 12) N q.2.2.2 ∧ ∀ i, i < j → ma q.2.2.2 12 i = nit (nT T) (lkT T) (oT T) (R + 1) i) (fun z => ∃ T', z = some (nI (cntN (fun i => decide (nit (nT (maW T 8 k v)) (lkT (maW T 8 k v)) (oT (maW T 8 k v)) (R2 + 1) i ≠ nit (nT T) (lkT T) (oT T) (R + 1) i)) (nT T)), T') ∧ cor (maW T 8 k v) T') (nT T) (by omega) (nI k, v, 0, N) ⟨rfl, rfl, rfl, frM_rfl _ _, fun i hi => by omega⟩ ?_ ?_
          · rintro j ⟨y1, y2, y3, E⟩ hj ⟨e1, e2, e3, hE, hEr⟩
            dsimp only at e1 e2 e3 hE hEr
            subst e1; subst e2; subst e3
            have hE3 : mi E 3 = nI (nT T) := by rw [hE.1]; exact hnN
            refine ⟨(nI k, y2, nI (j + 1), maW E 12 j (nit (nT T) (lkT T) (oT T) (R + 1) j)), ⟨rfl, rfl, rfl, frM_trans hE (frM_ma (P := fun a => a = 12) E (a := 12) rfl _ _), ?_⟩, ?_⟩
            · intro i hi
              show ma (maW E 12 j _) 12 i = _
              rw [ma_maW]
              by_cases e : i = j
              · subst e; rw [upd_s]
              · rw [upd_n _ _ e]; exact hEr i (by omega)
            · intro k0
              dsimp only
              unfold bX6_hint_47
              rw [hE3, if_neg (nI_ge hj (by omega)), ck_in (inb_nI (by omega) (by decide)), ck_in (inb_nI (by omega) (by decide)), cl_nI (show j < 2 ^ 31 by omega), bnd_s, show ma E 10 = ma N 10 from hE.2 10 (by decide), hnar j hj, nI_1]
          · rintro ⟨y1, y2, y3, E⟩ ⟨e1, e2, e3, hE, hEr⟩
            dsimp only at e1 e2 e3 hE hEr
            subst e1; subst e2; subst e3
            have hE3 : mi E 3 = nI (nT T) := by rw [hE.1]; exact hnN
            have hcE : cor T E := cor_trans hcN (frM_cor hE (fun a e => by omega))
            have hcG : cor (maW T 8 k y2) (maW E 8 k y2) := ⟨fun i hi => hcE.1 i hi, fun a ha => by
              by_cases e : a = 8
              · subst e; rw [ma_maW, ma_maW, hcE.2 8 (by omega)]
              · rw [ma_maW' _ _ _ e, ma_maW' _ _ _ e, hcE.2 a ha]⟩
            have hwG := cor_wf hcG hRel2.1
            have eN : nT (maW T 8 k y2) = nT T := rfl
            obtain ⟨M, hM, hfM, -, -, hMn⟩ := m_findNarrowed hwG (R := R2) hR2 (by rw [cor_n hcG, cor_lk hcG, cor_o hcG]; exact hend2) (by rw [cor_n hcG, cor_lk hcG, cor_o hcG]; exact hgo2)
            rw [cor_n hcG, cor_lk hcG, cor_o hcG] at hMn
            have hcM : cor (maW T 8 k y2) M := cor_trans hcG (frM_cor hfM (fun a e => by rcases e with e | e | e <;> omega))
            have hM3 : mi M 3 = nI (nT T) := by rw [hcM.1 3 (by omega)]; exact hn.1
            have hM12 : ∀ i, i < nT T → ma M 12 i = nit (nT T) (lkT T) (oT T) (R + 1) i := fun i hi => by
              rw [hfM.2 12 (by rintro (e | e | e) <;> omega), ma_maW' _ _ _ (by decide)]
              exact hEr i hi
            refine ⟨lp (fun k q => bX6_hint_89 k q.1 q.2.1 q.2.2) FU (0, 0, M), ⟨M, ?_, hcM⟩, ?_⟩
            · refine lp_go _ (fun j => (nI (cntN (fun i => decide (nit (nT (maW T 8 k y2)) (lkT (maW T 8 k y2)) (oT (maW T 8 k y2)) (R2 + 1) i ≠ nit (nT T) (lkT T) (oT T) (R + 1) i)) j), nI j, M)) _ (nT T) (by omega) ?_ ?_
              · intro j hj k0
                dsimp only
                unfold bX6_hint_89
                rw [hM3, if_neg (nI_ge hj (by omega)), ck_in (inb_nI (by omega) (by decide)), ck_in (inb_nI (by omega) (by decide)), cl_nI (by omega), hMn j hj, hM12 j hj, bnd_s, bnd_s, nI_1, nI_1, Int32.add_zero]
                by_cases q : nit (nT (maW T 8 k y2)) (lkT (maW T 8 k y2)) (oT (maW T 8 k y2)) (R2 + 1) j = nit (nT T) (lkT T) (oT T) (R + 1) j
                · rw [if_pos q, cntN_f (by simp [q])]
                · rw [if_neg q, cntN_t (decide_eq_true q)]
              · intro k0
                dsimp only
                unfold bX6_hint_89
                rw [hM3, if_pos (nI_le (Nat.le_refl _) (by omega))]
            · intro k0
              dsimp only
              unfold bX6_hint_47
              rw [hE3, if_pos (nI_le (Nat.le_refl _) (by omega)), ck_in (inb_nI (by omega) (by decide)), cl_nI (by omega), bnd_s, hM, ob1_s]
        obtain ⟨T', hT', hcT'⟩ := hloop
        rw [hT']
        exact ⟨_, _, _, rfl, rfl, Rel_cor hRC (corX_rfl _) hcT'⟩
    by_cases h9 : v = -9
    · rw [if_pos h9, if_pos h9]; exact main (Or.inl h9)
    · rw [if_neg h9, if_neg h9]
      by_cases hv : 1 ≤ v ∧ v ≤ 255
      · have hv1 : ¬ v < 1 := fun z => by
          have a := Int32.lt_iff_toInt_lt.mp z
          have b := Int32.le_iff_toInt_le.mp hv.1
          omega
        have h8 : S8 v := by
          obtain ⟨j, hj, e⟩ := nI_of2 (x := v) (M := 255) (n := 255) rfl (fun z => by
            have a := Int32.lt_iff_toInt_lt.mp z
            have b := Int32.le_iff_toInt_le.mp hv.1
            have c : (1 : Int32).toInt = 1 := rfl
            have d : (0 : Int32).toInt = 0 := rfl
            omega) hv.2
          rw [e]; exact S8_nI (by omega)
        rw [if_neg hv1, if_pos hv.2, if_pos hv]
        exact main (Or.inr h8)
      · rw [if_neg hv]
        by_cases h1 : v < 1
        · rw [if_pos h1]; exact ⟨_, _, _, rfl, rfl, h⟩
        · rw [if_neg h1, if_neg (fun z => hv ⟨by
            apply Int32.le_iff_toInt_le.mpr
            have : ¬ v.toInt < (1 : Int32).toInt := fun z => h1 (Int32.lt_iff_toInt_lt.mpr z)
            omega, z⟩)]
          exact ⟨_, _, _, rfl, rfl, h⟩
  · rw [if_neg hx, if_neg hx]; exact ⟨_, _, _, rfl, rfl, h⟩
