/-! narrowing of the reference -/
theorem lp_ex {α β : Type} (F : (α → Option β) → α → Option β) (Inv : Nat → α → Prop) (Post : β → Prop) (c : Nat) (hc : c < 1000) (a : α) (h0 : Inv 0 a) (hstep : ∀ j a, j < c → Inv j a → ∃ a', Inv (j + 1) a' ∧ ∀ k, F k a = k a') (hend : ∀ a, Inv c a → ∃ Z, (∃ t, Z = some t ∧ Post t) ∧ ∀ k, F k a = Z) : ∃ t, lp F FU a = some t ∧ Post t := lp_in F Inv (fun z => ∃ t, z = some t ∧ Post t) c hc a h0 hstep hend
abbrev pN : Nat → Prop := fun a => a = 10 ∨ a = 11
theorem m_narrows {T : MS} (h : wfM T) (f : Nat → Int32) (hf0 : ∀ k, k < nT T → ma T 10 k = f k) : ∃ T', fX6_narrows T = some (chgB (nT T) (lkT T) f, T') ∧ frM pN T T' ∧ ml T' = ml T ∧ ∀ k, k < nT T → ma T' 10 k = nst (nT T) (lkT T) f k := by
  have hn := h.1
  unfold fX6_narrows
  refine lp_in _ (fun j q => q.1 = anyN (fun k => decide (nst (nT T) (lkT T) f k ≠ f k)) j ∧ q.2.1 = nI j ∧ frM pN T q.2.2 ∧ ml q.2.2 = ml T ∧ (∀ k, k < nT T → ma q.2.2 10 k = f k) ∧ ∀ k, k < j → ma q.2.2 11 k = nst (nT T) (lkT T) f k) (fun z => ∃ T', z = some (chgB (nT T) (lkT T) f, T') ∧ frM pN T T' ∧ ml T' = ml T ∧ ∀ k, k < nT T → ma T' 10 k = nst (nT T) (lkT T) f k) (nT T) (by omega) _ ⟨rfl, rfl, frM_rfl _ _, rfl, hf0, fun k hk => by omega⟩ ?_ ?_
  · rintro j ⟨b, x, A⟩ hj ⟨e0, e, hf, hml, hA, hB⟩
    dsimp only at e0 e hf hml hA hB
    subst e
    have hc : cor T A := frM_cor hf (fun a q => by rcases q with q | q <;> omega)
    have hwA := cor_wf hc h
    have h3 : mi A 3 = nI (nT T) := by rw [hf.1]; exact hn.1
    let v1 := byF (f j) (lkT T j) (if 0 < j then f (j - 1) else 0)
    let v2 := byF v1 (lkT T (j + 1)) (if j + 1 < nT T then f (j + 1) else 0)
    have hv2 : v2 = nst (nT T) (lkT T) f j := rfl
    let A1 := maW A 11 j v1
    have hc1 : cor T A1 := cor_trans hc (cor_ma A (by omega) _ _)
    have hwA1 := cor_wf hc1 h
    have h31 : mi A1 3 = nI (nT T) := h3
    have hA1 : ∀ k, ma A1 10 k = ma A 10 k := fun k => congrFun (ma_maW' A j v1 (by decide : (10 : Nat) ≠ 11)) k
    have hA11 : ma A1 11 j = v1 := by rw [show ma A1 11 = upd (ma A 11) j v1 from ma_maW A 11 j v1, upd_s]
    let A2 := maW A1 11 j v2
    have hA2 : ∀ k, ma A2 10 k = ma A 10 k := fun k => (congrFun (ma_maW' A1 j v2 (by decide : (10 : Nat) ≠ 11)) k).trans (hA1 k)
    have hA21 : ma A2 11 j = v2 := by rw [show ma A2 11 = upd (ma A1 11) j v2 from ma_maW A1 11 j v2, upd_s]
    have hf1 : frM pN T A1 := frM_trans hf (frM_ma A (Or.inr rfl) _ _)
    have hf2 : frM pN T A2 := frM_trans hf1 (frM_ma A1 (Or.inr rfl) _ _)
    refine ⟨(b || decide (nst (nT T) (lkT T) f j ≠ f j), nI (j + 1), A2), ⟨by show (b || _) = _; rw [e0]; rfl, rfl, hf2, hml, fun k hk => (hA2 k).trans (hA k hk), ?_⟩, ?_⟩
    · intro k hk
      show ma A2 11 k = _
      by_cases e : k = j
      · subst e; rw [hA21]; rfl
      · rw [show ma A2 11 = upd (ma A1 11) j v2 from ma_maW A1 11 j v2, upd_n _ _ e, show ma A1 11 = upd (ma A 11) j v1 from ma_maW A 11 j v1, upd_n _ _ e]
        exact hB k (by omega)
    · intro k0
      dsimp only
      have e90 : ∀ o : Int32, o = (if j + 1 < nT T then f (j + 1) else 0) → bX6_narrows_90 k0 b (nI j) (nI j) v1 (lkT T (j + 1)) o A1 = k0 (b || decide (nst (nT T) (lkT T) f j ≠ f j), nI (j + 1), A2) := by
        intro o ho
        unfold bX6_narrows_90
        rw [m_by, ob1_s, ho, ck_in (inb_nI (by omega) (by decide)), cl_nI (by omega), bnd_s]
        show (if bi b = 0 then (ck (nI j) 16 (ck (nI j) 16 (if ma A2 11 j = ma A2 10 j then k0 (false, nI j + 1, A2) else k0 (true, nI j + 1, A2)))) else k0 (true, nI j + 1, A2)) = _
        rw [ck_in (inb_nI (by omega) (by decide)), ck_in (inb_nI (by omega) (by decide)), hA21, hA2, hA j hj, hv2, nI_1, if_bi]
        cases b
        · rw [if_neg (by simp)]
          by_cases hq : nst (nT T) (lkT T) f j = f j
          · rw [if_pos hq]; simp [hq]
          · rw [if_neg hq]; simp [hq]
        · rw [if_pos rfl]; rfl
      have e45 : ∀ o : Int32, o = (if 0 < j then f (j - 1) else 0) → bX6_narrows_45 k0 b (nI j) (nI j) (f j) (lkT T j) o A = k0 (b || decide (nst (nT T) (lkT T) f j ≠ f j), nI (j + 1), A2) := by
        intro o ho
        unfold bX6_narrows_45
        rw [m_by, ob1_s, ho, ck_in (inb_nI (by omega) (by decide)), cl_nI (by omega), bnd_s]
        show (ck (nI j) 16 (ob1 (fX6_linkAt (nI j + 1) A1) (fun r111 => (if (mi A1 3) ≤ (nI j + 1) then (bX6_narrows_90 k0 b (nI j) (nI j) ((ma A1 11 j)) (r111) (0) A1) else (ck (nI j + 1) 16 (bX6_narrows_90 k0 b (nI j) (nI j) ((ma A1 11 j)) (r111) ((ma A1 10 (nI j + 1).toNatClampNeg)) A1)))))) = _
        rw [ck_in (inb_nI (by omega) (by decide)), nI_1, m_linkAt A1 hwA1 (by omega), ob1_s, h31, hA11, cor_lk hc1]
        by_cases hq : j + 1 < nT T
        · rw [if_neg (nI_ge hq (by omega)), ck_in (inb_nI (by omega) (by decide)), cl_nI (by omega), hA1, hA _ hq]
          exact e90 _ (by rw [if_pos hq])
        · rw [if_pos (nI_le (by omega) (by omega))]
          exact e90 _ (by rw [if_neg hq])
      unfold bX6_narrows_4
      rw [h3, if_neg (nI_ge hj (by omega)), ck_in (inb_nI (by omega) (by decide)), m_linkAt A hwA (by omega), ob1_s, cl_nI (show j < 2 ^ 31 by omega), hA j hj, cor_lk hc]
      by_cases hq : 0 < j
      · rw [if_neg (show ¬ nI j ≤ 0 from nI_nle hq (by omega))]
        have e1 : nI j - 1 = nI (j - 1) := by rw [show (1 : Int32) = nI 1 from rfl, pk_sub hq]
        rw [e1, ck_in (inb_nI (by omega) (by decide)), cl_nI (by omega), hA _ (by omega)]
        exact e45 _ (by rw [if_pos hq])
      · have : j = 0 := by omega
        subst this
        rw [if_pos (by decide)]
        exact e45 _ (by rw [if_neg (by omega)])
  · rintro ⟨b, x, A⟩ ⟨e0, e, hf, hml, hA, hB⟩
    dsimp only at e0 e hf hml hA hB
    subst e
    have h3 : mi A 3 = nI (nT T) := by rw [hf.1]; exact hn.1
    refine ⟨lp (fun k q => bX6_narrows_127 k q.1 q.2.1 q.2.2) FU (b, 0, A), ?_, ?_⟩
    · refine lp_in _ (fun (j : Nat) (q : Bool × Int32 × MS) => q.1 = b ∧ q.2.1 = nI j ∧ frM pN T q.2.2 ∧ ml q.2.2 = ml T ∧ ma q.2.2 11 = ma A 11 ∧ ∀ k, k < j → ma q.2.2 10 k = nst (nT T) (lkT T) f k) (fun z => ∃ T', z = some (chgB (nT T) (lkT T) f, T') ∧ frM pN T T' ∧ ml T' = ml T ∧ ∀ k, k < nT T → ma T' 10 k = nst (nT T) (lkT T) f k) (nT T) (by omega) (b, 0, A) ⟨rfl, rfl, hf, hml, rfl, fun k hk => by omega⟩ ?_ ?_
      · rintro j ⟨b', x, C⟩ hj ⟨eb, e, hfC, hmlC, h11, hC⟩
        dsimp only at eb e hfC hmlC h11 hC
        subst e; subst eb
        have h3C : mi C 3 = nI (nT T) := by rw [hfC.1]; exact hn.1
        refine ⟨(b', nI (j + 1), maW C 10 j (nst (nT T) (lkT T) f j)), ⟨rfl, rfl, frM_trans hfC (frM_ma C (Or.inl rfl) _ _), hmlC, (ma_maW' C j _ (by decide : (11 : Nat) ≠ 10)).trans h11, ?_⟩, ?_⟩
        · intro k hk
          show ma (maW C 10 j _) 10 k = _
          rw [ma_maW]
          by_cases e : k = j
          · subst e; rw [upd_s]
          · rw [upd_n _ _ e]; exact hC k (by omega)
        · intro k0
          dsimp only
          unfold bX6_narrows_127
          rw [h3C, if_neg (nI_ge hj (by omega)), ck_in (inb_nI (by omega) (by decide)), ck_in (inb_nI (by omega) (by decide)), cl_nI (by omega), bnd_s, h11, hB j hj, nI_1]
      · rintro ⟨b', x, C⟩ ⟨eb, e, hfC, hmlC, h11, hC⟩
        dsimp only at eb e hfC hmlC h11 hC
        subst e; subst eb
        have h3C : mi C 3 = nI (nT T) := by rw [hfC.1]; exact hn.1
        refine ⟨some (b', C), ⟨C, by rw [e0]; rfl, hfC, hmlC, hC⟩, ?_⟩
        intro k0
        dsimp only
        unfold bX6_narrows_127
        rw [h3C, if_pos (nI_le (Nat.le_refl _) (by omega))]
    · intro k0
      dsimp only
      unfold bX6_narrows_4
      rw [h3, if_pos (nI_le (Nat.le_refl _) (by omega))]
abbrev pF : Nat → Prop := fun a => a = 9 ∨ a = 10 ∨ a = 11
/-- the reference's narrowed sets are those of the round behind the first that changes nothing -/
theorem m_findNarrowed {T : MS} (h : wfM T) {R : Nat} (hR : R ≤ 128) (hend : chgB (nT T) (lkT T) (nit (nT T) (lkT T) (oT T) R) = false) (hgo : ∀ r, r < R → chgB (nT T) (lkT T) (nit (nT T) (lkT T) (oT T) r) = true) : ∃ T', fX6_findNarrowed T = some T' ∧ frM pF T T' ∧ ml T' = ml T ∧ (∀ k, k < nT T → ma T' 9 k = oT T k) ∧ ∀ k, k < nT T → ma T' 10 k = nit (nT T) (lkT T) (oT T) (R + 1) k := by
  have hn := h.1
  obtain ⟨T1, h1, hf1, hml1, ho1⟩ := m_findOwn h
  have hf1 : frM pF T T1 := frM_mono hf1 (fun a e => Or.inl e)
  unfold fX6_findNarrowed
  rw [h1, ob1_s]
  refine lp_ex _ (fun (j : Nat) (q : Int32 × MS) => q.1 = nI j ∧ frM pF T q.2 ∧ ml q.2 = ml T ∧ (∀ k, k < nT T → ma q.2 9 k = oT T k) ∧ ∀ k, k < j → ma q.2 10 k = oT T k) _ (nT T) (by omega) (0, T1) ⟨rfl, hf1, hml1, ho1, fun k hk => by omega⟩ ?_ ?_
  · rintro j ⟨x, C⟩ hj ⟨e, hfC, hmlC, h9, hC⟩
    dsimp only at e hfC hmlC h9 hC
    subst e
    have h3C : mi C 3 = nI (nT T) := by rw [hfC.1]; exact hn.1
    refine ⟨(nI (j + 1), maW C 10 j (oT T j)), ⟨rfl, frM_trans hfC (frM_ma C (Or.inr (Or.inl rfl)) _ _), hmlC, ?_, ?_⟩, ?_⟩
    · intro k hk
      exact (congrFun (ma_maW' C j _ (by decide : (9 : Nat) ≠ 10)) k).trans (h9 k hk)
    · intro k hk
      show ma (maW C 10 j _) 10 k = _
      rw [ma_maW]
      by_cases e : k = j
      · subst e; rw [upd_s]
      · rw [upd_n _ _ e]; exact hC k (by omega)
    · intro k0
      dsimp only
      unfold bX6_findNarrowed_6
      rw [h3C, if_neg (nI_ge hj (by omega)), ck_in (inb_nI (by omega) (by decide)), ck_in (inb_nI (by omega) (by decide)), cl_nI (by omega), bnd_s, h9 j hj, nI_1]
  · rintro ⟨x, C⟩ ⟨e, hfC, hmlC, h9, hC⟩
    dsimp only at e hfC hmlC h9 hC
    subst e
    have h3C : mi C 3 = nI (nT T) := by rw [hfC.1]; exact hn.1
    refine ⟨lp (fun k q => bX6_findNarrowed_34 k q.1 q.2) FU (true, C), ?_, ?_⟩
    · refine lp_ex _ (fun (j : Nat) (q : Bool × MS) => q.1 = decide (j ≤ R) ∧ frM pF T q.2 ∧ ml q.2 = ml T ∧ (∀ k, k < nT T → ma q.2 9 k = oT T k) ∧ ∀ k, k < nT T → ma q.2 10 k = nit (nT T) (lkT T) (oT T) j k) _ (R + 1) (by omega) (true, C) ⟨by simp, hfC, hmlC, h9, hC⟩ ?_ ?_
      · rintro j ⟨b, E⟩ hj ⟨eb, hfE, hmlE, h9E, hE⟩
        dsimp only at eb hfE hmlE h9E hE
        have hcE : cor T E := frM_cor hfE (fun a q => by rcases q with q | q | q <;> omega)
        have hwE := cor_wf hcE h
        obtain ⟨E', hr, hfr, hmlr, hE'⟩ := m_narrows hwE (nit (nT T) (lkT T) (oT T) j) (by rw [cor_n hcE]; exact hE)
        rw [cor_n hcE, cor_lk hcE] at hr hE'
        have hfE' : frM pF T E' := frM_trans hfE (frM_mono hfr (fun a q => by rcases q with q | q; exact Or.inr (Or.inl q); exact Or.inr (Or.inr q)))
        refine ⟨(chgB (nT T) (lkT T) (nit (nT T) (lkT T) (oT T) j), E'), ⟨?_, hfE', hmlr.trans hmlE, ?_, hE'⟩, ?_⟩
        · show chgB _ _ _ = _
          rcases Nat.lt_or_ge j R with q | q
          · rw [hgo j q]; simp; omega
          · have : j = R := by omega
            subst this
            rw [hend]; simp
        · intro k hk
          rw [show ma E' 9 = ma E 9 from hfr.2 9 (by rintro (q | q) <;> omega)]
          exact h9E k hk
        · intro k0
          dsimp only
          unfold bX6_findNarrowed_34
          rw [eb, if_bid, if_pos (by omega), hr, ob2_s]
      · rintro ⟨b, E⟩ ⟨eb, hfE, hmlE, h9E, hE⟩
        dsimp only at eb hfE hmlE h9E hE
        refine ⟨some E, ⟨E, rfl, hfE, hmlE, h9E, hE⟩, ?_⟩
        intro k0
        dsimp only
        unfold bX6_findNarrowed_34
        rw [eb, if_bid, if_neg (by omega)]
    · intro k0
      dsimp only
      unfold bX6_findNarrowed_6
      rw [h3C, if_pos (nI_le (Nat.le_refl _) (by omega))]
