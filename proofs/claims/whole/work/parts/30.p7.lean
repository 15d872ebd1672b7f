/-! reading what was written; the chain filled -/
theorem xi_xiW (S : XS) (k : Nat) (v : Int32) : xi (xiW S k v) k = v := by show va_up S.1 k v k = v; unfold va_up; rw [if_pos rfl]
theorem xi_xiW' (S : XS) {k j : Nat} (v : Int32) (h : j ≠ k) : xi (xiW S k v) j = xi S j := by show va_up S.1 k v j = S.1 j; unfold va_up; rw [if_neg h]
theorem xa_xiW (S : XS) (k : Nat) (v : Int32) : xa (xiW S k v) = xa S := rfl
theorem xl_xiW (S : XS) (k : Nat) (v : Int32) : xl (xiW S k v) = xl S := rfl
theorem xi_xaW (S : XS) (a j : Nat) (v : Int32) : xi (xaW S a j v) = xi S := rfl
theorem xl_xaW (S : XS) (a j : Nat) (v : Int32) : xl (xaW S a j v) = xl S := rfl
theorem xa_xaW (S : XS) (a j : Nat) (v : Int32) : xa (xaW S a j v) a = upd (xa S a) j v := by show va_up S.2.1 a _ a = _; unfold va_up; rw [if_pos rfl]; rfl
theorem xa_xaW' (S : XS) {a b : Nat} (j : Nat) (v : Int32) (h : b ≠ a) : xa (xaW S a j v) b = xa S b := by show va_up S.2.1 a _ b = _; unfold va_up; rw [if_neg h]; rfl
theorem xi_xlW (S : XS) (a j : Nat) (v : Int64) : xi (xlW S a j v) = xi S := rfl
theorem xa_xlW (S : XS) (a j : Nat) (v : Int64) : xa (xlW S a j v) = xa S := rfl
theorem xl_xlW (S : XS) (a j : Nat) (v : Int64) : xl (xlW S a j v) a = vp_updL (xl S a) j v := by show va_up S.2.2.1 a _ a = _; unfold va_up; rw [if_pos rfl]; rfl
theorem xl_xlW' (S : XS) {a b : Nat} (j : Nat) (v : Int64) (h : b ≠ a) : xl (xlW S a j v) b = xl S b := by show va_up S.2.2.1 a _ b = _; unfold va_up; rw [if_neg h]; rfl
theorem mi_miW (S : MS) (k : Nat) (v : Int32) : mi (miW S k v) k = v := by show va_up S.1 k v k = v; unfold va_up; rw [if_pos rfl]
theorem mi_miW' (S : MS) {k j : Nat} (v : Int32) (h : j ≠ k) : mi (miW S k v) j = mi S j := by show va_up S.1 k v j = S.1 j; unfold va_up; rw [if_neg h]
theorem ma_miW (S : MS) (k : Nat) (v : Int32) : ma (miW S k v) = ma S := rfl
theorem ml_miW (S : MS) (k : Nat) (v : Int32) : ml (miW S k v) = ml S := rfl
theorem mi_maW (S : MS) (a j : Nat) (v : Int32) : mi (maW S a j v) = mi S := rfl
theorem ml_maW (S : MS) (a j : Nat) (v : Int32) : ml (maW S a j v) = ml S := rfl
theorem ma_maW (S : MS) (a j : Nat) (v : Int32) : ma (maW S a j v) a = upd (ma S a) j v := by show va_up S.2.1 a _ a = _; unfold va_up; rw [if_pos rfl]; rfl
theorem ma_maW' (S : MS) {a b : Nat} (j : Nat) (v : Int32) (h : b ≠ a) : ma (maW S a j v) b = ma S b := by show va_up S.2.1 a _ b = _; unfold va_up; rw [if_neg h]; rfl
theorem mi_mlW (S : MS) (a j : Nat) (v : Int64) : mi (mlW S a j v) = mi S := rfl
theorem ma_mlW (S : MS) (a j : Nat) (v : Int64) : ma (mlW S a j v) = ma S := rfl
theorem ml_mlW (S : MS) (a j : Nat) (v : Int64) : ml (mlW S a j v) a = vp_updL (ml S a) j v := by show va_up S.2.2 a _ a = _; unfold va_up; rw [if_pos rfl]; rfl
theorem ml_mlW' (S : MS) {a b : Nat} (j : Nat) (v : Int64) (h : b ≠ a) : ml (mlW S a j v) b = ml S b := by show va_up S.2.2 a _ b = _; unfold va_up; rw [if_neg h]; rfl
theorem upd_s (f : Nat → Int32) (k : Nat) (x : Int32) : upd f k x k = x := pk_us
theorem upd_n (f : Nat → Int32) {k j : Nat} (x : Int32) (h : j ≠ k) : upd f k x j = f j := pk_un h
theorem x_goesOn {S : XS} {T : MS} (h : Rel S T) {k : Nat} (hk : k < nT T) : fX1_goesOn k S = some (decide (ma T 6 k = 1)) := by
  have hn := h.1.1
  have hm := (h.1.2.2.2.2.2 k hk).2.1
  unfold fX1_goesOn
  rw [if_pos (by omega), (h.2.2.2.2.2.2.2.2.1 k hk).2.1]
  rcases hm with e | e <;> rw [e] <;> rfl
theorem x_linkAhead {S : XS} {T : MS} (h : Rel S T) {k : Nat} (hk : k < nT T) : fX3_linkAhead (nI k) (mi T 1) S = some (lkT T k) := by
  have hn := h.1.1
  have hm := (h.1.2.2.2.2.2 k hk).2.1
  obtain ⟨v, hv, hR⟩ := h.1.2.2.2.2.1
  obtain ⟨-, -, -, rb3⟩ := rule_bits v hv
  rw [← hR] at rb3
  unfold fX3_linkAhead lkT
  rcases Nat.eq_zero_or_pos k with rfl | h0
  · rw [x_speaksAt_out h (x := nI 0 - 1) (by rintro ⟨a, -⟩; exact absurd a (by decide)), ob1_s, if_pos (by decide), if_neg (by omega)]
  · have e1 : nI k - 1 = nI (k - 1) := by rw [show (1 : Int32) = nI 1 from rfl, pk_sub h0]
    rw [e1, x_speaksAt h (show k - 1 < nT T by omega), ob1_s, if_bi, x_speaksAt h hk, ob1_s, if_bi, x_par h hk, ob1_s, x_goesOn h hk, ob1_s, if_bid]
    cases h2 : spT T (k - 1)
    · simp
    · cases h3 : spT T k
      · simp
      · have hc : 0 < k ∧ k < nT T ∧ true = true ∧ true = true := ⟨h0, hk, rfl, rfl⟩
        rw [if_pos rfl, if_pos rfl, if_pos hc]
        rcases hm with e | e
        · rw [e, if_neg (show ¬ (0 : Int32) = 1 by decide)]
          cases h5 : tb (mi T 1) 3
          · rw [if_pos (rb3.mpr h5)]; rfl
          · rw [if_neg (show ¬ (mi T 1 &&& 8 = 0) from fun q => by rw [rb3.mp q] at h5; cases h5)]; rfl
        · rw [e]; rfl
/-- the class's chain after j of its paragraphs -/
def filX (S : XS) (T : MS) : Nat → XS
  | 0 => xiW S 5 0
  | j + 1 => xiW (xaW (xaW (xaW (filX S T j) 8 j (bi (spT T j))) 9 j (oT T j)) 10 j (lkT T j)) 5 (nI (j + 1))
theorem filX_cor (S : XS) (T : MS) (j : Nat) : corX S (filX S T j) := by
  induction j with
  | zero => exact corX_i S 0
  | succ j ih => exact corX_trans (corX_trans (corX_trans (corX_trans ih (corX_a _ (by omega) _ _)) (corX_a _ (by omega) _ _)) (corX_a _ (by omega) _ _)) (corX_i _ _)
theorem filX_5 (S : XS) (T : MS) (j : Nat) : xi (filX S T j) 5 = nI j := by
  cases j with
  | zero => exact xi_xiW S 5 0
  | succ j => exact xi_xiW _ 5 _
theorem filX_at (S : XS) (T : MS) (j : Nat) : ∀ i, i < j → xa (filX S T j) 8 i = bi (spT T i) ∧ xa (filX S T j) 9 i = oT T i ∧ xa (filX S T j) 10 i = lkT T i := by
  induction j with
  | zero => intro i h; omega
  | succ j ih =>
    intro i hi
    simp only [filX, xa_xiW]
    rw [xa_xaW' _ _ _ (by decide : (8 : Nat) ≠ 10), xa_xaW' _ _ _ (by decide : (8 : Nat) ≠ 9), xa_xaW, xa_xaW' _ _ _ (by decide : (9 : Nat) ≠ 10), xa_xaW, xa_xaW' _ _ _ (by decide : (9 : Nat) ≠ 8), xa_xaW, xa_xaW' _ _ _ (by decide : (10 : Nat) ≠ 9), xa_xaW' _ _ _ (by decide : (10 : Nat) ≠ 8)]
    by_cases e : i = j
    · subst e
      rw [upd_s, upd_s, upd_s]
      exact ⟨rfl, rfl, rfl⟩
    · rw [upd_n _ _ e, upd_n _ _ e, upd_n _ _ e]
      exact ih i (by omega)
theorem x_append (S : XS) {j : Nat} (hj : j < 16) (h5 : xi S 5 = nI j) (b : Bool) (o l : Int32) : fX0_append b o l S = some (xiW (xaW (xaW (xaW S 8 j (bi b)) 9 j o) 10 j l) 5 (nI (j + 1))) := by
  unfold fX0_append
  have hw : fX5_isWithin (xi S 5) 16 = true := by
    rw [x_within, h5, show (16 : Int32) = nI 16 from rfl]
    exact decide_eq_true ⟨nI_pos' (by omega), nI_lt hj (by omega)⟩
  rw [hw, if_neg (by decide)]
  have e1 : xi (xaW S 8 j (bi b)) 5 = nI j := h5
  have e2 : xi (xaW (xaW S 8 j (bi b)) 9 j o) 5 = nI j := h5
  have e3 : xi (xaW (xaW (xaW S 8 j (bi b)) 9 j o) 10 j l) 5 = nI j := h5
  rw [h5, ck_in (inb_nI hj (by decide)), cl_nI (by omega), bnd_s, e1, ck_in (inb_nI hj (by decide)), cl_nI (by omega), bnd_s, e2, ck_in (inb_nI hj (by decide)), cl_nI (by omega), bnd_s, e3, bnd_s, nI_1]
theorem x_fill {S : XS} {T : MS} (h : Rel S T) : fX5_fillChain S = some (filX S T (nT T)) := by
  have hn := h.1.1
  unfold fX5_fillChain fX0_clear
  rw [bnd_s, ob1_s]
  refine lp_go _ (fun j => (nI j, filX S T j)) _ (nT T) (by omega) ?_ ?_
  · intro j hj k0
    dsimp only
    have hR : Rel (filX S T j) T := Rel_cor h (filX_cor S T j) (cor_rfl T)
    have h1 : xi (filX S T j) 1 = mi T 1 := hR.2.2.1
    unfold bX5_fillChain_9 fX3_length
    rw [hR.2.2.2.2.2.2.2.1, hn.1, if_neg (nI_ge hj (by omega)), x_par hR hj, ob1_s, x_speaks hR hj, ob1_s, if_bi, h1, x_ownSet hR hj, ob1_s]
    have e54 : ∀ o : Int32, bX5_fillChain_54 k0 (nI j) (spT T j) o (filX S T j) = k0 (nI (j + 1), xiW (xaW (xaW (xaW (filX S T j) 8 j (bi (spT T j))) 9 j o) 10 j (lkT T j)) 5 (nI (j + 1))) := by
      intro o
      unfold bX5_fillChain_54
      rw [h1, x_linkAhead hR hj, ob1_s, x_append _ (by omega) (filX_5 S T j), ob1_s, nI_1]
    rw [e54, e54]
    show _ = k0 (nI (j + 1), filX S T (j + 1))
    simp only [filX, oT]
    cases spT T j
    · rfl
    · rfl
  · intro k0
    dsimp only
    have hR : Rel (filX S T (nT T)) T := Rel_cor h (filX_cor S T (nT T)) (cor_rfl T)
    unfold bX5_fillChain_9 fX3_length
    rw [hR.2.2.2.2.2.2.2.1, hn.1, if_pos (nI_le (Nat.le_refl _) (by omega))]
