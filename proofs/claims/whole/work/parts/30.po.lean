/-! run -/
theorem cntN_flat {P : Nat → Bool} {i j : Nat} (hij : i ≤ j) (h : ∀ k, i ≤ k → k < j → P k = false) : cntN P j = cntN P i := by
  induction j with
  | zero => have : i = 0 := by omega
            subst this; rfl
  | succ j ih =>
    by_cases e : i = j + 1
    · subst e; rfl
    · rw [cntN_f (h j (by omega) (by omega)), ih (by omega) (fun k h1 h2 => h k h1 (by omega))]
theorem cntN_le' (P : Nat → Bool) {i j : Nat} (hij : i ≤ j) : cntN P i ≤ cntN P j := by
  induction j with
  | zero => have : i = 0 := by omega
            subst this; exact Nat.le_refl _
  | succ j ih =>
    by_cases e : i = j + 1
    · subst e; exact Nat.le_refl _
    · have := ih (by omega)
      simp only [cntN]; omega
def orF (f : Nat → Int32) (b : Nat) : Nat → Int32
  | 0 => 0
  | j + 1 => orF f b j ||| f (b + j)
theorem S8_orF {f : Nat → Int32} {b : Nat} (j : Nat) (h : ∀ i, i < j → S8 (f (b + i))) : S8 (orF f b j) := by
  induction j with
  | zero => exact S8_0
  | succ j ih => exact (ih (fun i hi => h i (by omega))).or (h j (by omega))
theorem sim_run {S : XS} {T : MS} (h : Rel S T) (x w : Int32) : ∃ r S', fX5_run x w S = some (r, S') ∧ fX6_run x w T = some r ∧ Rel S' T := by
  have hn := h.1.1
  have hru : ruN T ≤ nT T := cntN_le _ _
  have hstepX : ∀ j, j < nT T → ∀ k0 : Int32 × Int32 × Int32 × XS → Option Int32, bX3_firstOfRun_4 k0 x (nI (cntN (brT T) j)) (nI j) S = if brT T j = true then (if nI (cntN (brT T) j) = x then some (nI j) else k0 (x, nI (cntN (brT T) (j + 1)), nI (j + 1), S)) else k0 (x, nI (cntN (brT T) (j + 1)), nI (j + 1), S) := by
    intro j hj k0
    unfold bX3_firstOfRun_4
    rw [h.2.2.2.2.2.2.2.1, hn.1, if_neg (nI_ge hj (by omega)), x_begins h hj, ob1_s, if_bi, nI_1, nI_1]
    cases hb : brT T j
    · rw [if_neg (by simp), if_neg (by simp), cntN_f hb]
    · rw [if_pos rfl, if_pos rfl, cntN_t hb]
  unfold fX5_run fX6_run
  rw [m_runs h.1, ob1_s, within_eq, if_bid, within_eq, if_bid]
  have hin : (0 ≤ x ∧ x ≤ nI (ruN T) - 1) ↔ ∃ m, m < ruN T ∧ x = nI m := by
    rw [← inb_iff (by omega)]
    constructor
    · exact inb_ex (by omega)
    · rintro ⟨m, hm, rfl⟩; exact inb_nI hm (by omega)
  by_cases hx : 0 ≤ x ∧ x ≤ nI (ruN T) - 1
  · rw [if_pos hx]
    obtain ⟨m, hm, rfl⟩ := hin.mp hx
    -- the m-th beginning
    obtain ⟨f, hf, hbf, hcf⟩ := nth_ex (brT T) hm
    have hfirst : fX3_firstOfRun (nI m) S = some (nI f) := by
      unfold fX3_firstOfRun
      refine lp_go _ (fun j => (nI m, nI (cntN (brT T) j), nI j, S)) _ f (by omega) ?_ ?_
      · intro j hj k0
        dsimp only
        rw [hstepX j (by omega)]
        cases hb : brT T j
        · rw [if_neg (by simp)]
        · have h1 := cntN_step (brT T) hj hb
          have h2 := cntN_le (brT T) j
          rw [if_pos rfl, if_neg (fun z => by have := (nI_eq (by omega) (by omega)).mp z; omega)]
      · intro k0
        dsimp only
        rw [hstepX f hf, if_pos hbf, if_pos (by rw [hcf])]
    -- how long it is
    have hsf : spT T f = true := by
      unfold brT at hbf
      simp only [Bool.and_eq_true] at hbf
      exact hbf.1
    obtain ⟨L, hL, hLall, hLend⟩ : ∃ L, f + L ≤ nT T ∧ (∀ i, i < L → spT T (f + i) = true) ∧ (f + L < nT T → spT T (f + L) = false) := by
      by_cases hex : ∃ L, f + L < nT T ∧ spT T (f + L) = false
      · obtain ⟨L, ⟨h1, h2⟩, hmin⟩ := pk_least _ hex
        refine ⟨L, by omega, fun i hi => ?_, fun _ => h2⟩
        cases hq : spT T (f + i)
        · exact absurd ⟨by omega, hq⟩ (hmin i hi)
        · rfl
      · refine ⟨nT T - f, by omega, fun i hi => ?_, fun z => by omega⟩
        cases hq : spT T (f + i)
        · exact absurd ⟨i, by omega, hq⟩ hex
        · rfl
    have hlen : fX3_runLength (nI f) S = some (nI L) := by
      unfold fX3_runLength
      refine lp_go _ (fun j => (nI j, nI (f + j), S)) _ L (by omega) ?_ ?_
      · intro j hj k0
        dsimp only
        unfold bX3_runLength_4
        rw [h.2.2.2.2.2.2.2.1, hn.1, if_neg (nI_ge (by omega) (by omega)), x_speaksAt h (show f + j < nT T by omega), ob1_s, hLall j hj, if_neg (by decide), nI_1, nI_1]
        rfl
      · intro k0
        dsimp only
        unfold bX3_runLength_4
        rw [h.2.2.2.2.2.2.2.1, hn.1]
        by_cases q : f + L < nT T
        · rw [if_neg (nI_ge q (by omega)), x_speaksAt h q, ob1_s, hLend q, if_pos (by decide)]
        · rw [if_pos (nI_le (by omega) (by omega))]
    have hjoin : fX0_ownSetsJoined (nI f) (nI L) (filX S T (nT T)) = some (orF (oT T) f L) := by
      have hch := fill_ch S T
      unfold fX0_ownSetsJoined
      refine lp_go _ (fun j => (nI f, nI L, orF (oT T) f j, nI j, filX S T (nT T))) _ L (by omega) ?_ ?_
      · intro j hj k0
        dsimp only
        unfold bX0_ownSetsJoined_5
        rw [if_neg (nI_ge hj (by omega)), nI_add, x_own hn.2 hch, ob1_s, rd_in _ hn.2 (show f + j < nT T by omega), bnd_s, nI_1]
        rfl
      · intro k0
        dsimp only
        unfold bX0_ownSetsJoined_5
        rw [if_pos (nI_le (Nat.le_refl _) (by omega))]
    have hS8 : S8 (orF (oT T) f L) := S8_orF L (fun i hi => own_S8 h.1 _ (by omega))
    -- the reference: from the beginning on
    have hm70 : lp (fun k q => bX6_run_70 k q.1 q.2.1 q.2.2.1 q.2.2.2.1 q.2.2.2.2.1 q.2.2.2.2.2) FU (w, nI f, 0, 0, nI f, T) = bX6_run_108 w (nI f) (nI L) (orF (oT T) f L) T := by
      refine lp_go _ (fun j => (w, nI f, nI j, orF (oT T) f j, nI (f + j), T)) _ L (by omega) ?_ ?_
      · intro j hj k0
        dsimp only
        unfold bX6_run_70
        have hr := (h.1.2.2.2.2.2 (f + j) (by omega)).1
        rw [hn.1, if_neg (nI_ge (by omega) (by omega)), m_speaks T (by omega) hr, ob1_s, hLall j hj, if_neg (by decide), m_ownOf T (by omega) hr, ob1_s, bnd_s, nI_1, nI_1]
        have : oT T (f + j) = owT T (f + j) := by unfold oT; rw [if_pos (hLall j hj)]
        show k0 (w, nI f, nI (j + 1), orF (oT T) f j ||| owT T (f + j), nI (f + j + 1), T) = k0 (w, nI f, nI (j + 1), orF (oT T) f j ||| oT T (f + j), nI (f + (j + 1)), T)
        rw [this]
        rfl
      · intro k0
        dsimp only
        unfold bX6_run_70
        rw [hn.1]
        by_cases q : f + L < nT T
        · rw [if_neg (nI_ge q (by omega)), m_speaks T (by omega) (h.1.2.2.2.2.2 (f + L) q).1, ob1_s, hLend q, if_pos (by decide)]
        · rw [if_pos (nI_le (by omega) (by omega))]
    -- the reference: to the beginning
    have hm33 : lp (fun k q => bX6_run_33 k q.1 q.2.1 q.2.2.1 q.2.2.2) FU (w, (-1), nI m, T) = bX6_run_108 w (nI f) (nI L) (orF (oT T) f L) T := by
      refine lp_in _ (fun (j : Nat) (q : Int32 × Int32 × Int32 × MS) => q.1 = w ∧ q.2.2.1 = nI (m + 1 - j) - 1 ∧ q.2.2.2 = T ∧ ∃ s, s ≤ nT T ∧ q.2.1 + 1 = nI s ∧ cntN (brT T) s = j ∧ (j = m + 1 → s = f + 1)) (fun z => z = bX6_run_108 w (nI f) (nI L) (orF (oT T) f L) T) (m + 1) (by omega) (w, (-1), nI m, T) ⟨rfl, by show nI m = nI (m + 1 - 0) - 1; rw [show (1 : Int32) = nI 1 from rfl, pk_sub (by omega)]; rfl, rfl, 0, by omega, (by show (-1 : Int32) + 1 = nI 0; decide), rfl, fun q => by omega⟩ ?_ ?_
      · rintro j ⟨y1, y2, y3, A⟩ hj ⟨e1, e3, eA, s, hs, es, hcs, -⟩
        dsimp only at e1 e3 eA es
        subst e1; subst e3; subst eA
        -- the j-th beginning lies at or behind s
        obtain ⟨k, hk, hbk, hck⟩ := nth_ex (brT A) (m := j) (n := nT A) (by have : ruN A = cntN (brT A) (nT A) := rfl; omega)
        have hsk : s ≤ k := by
          rcases Nat.lt_or_ge k s with q | q
          · have := cntN_step (brT A) q hbk
            omega
          · exact q
        have hno : ∀ i, s ≤ i → i < k → brT A i = false := by
          intro i h1 h2
          cases hq : brT A i
          · rfl
          · have a1 := cntN_step (brT A) h2 hq
            have a2 := cntN_le' (brT A) h1
            omega
        refine ⟨(y1, nI k, nI (m + 1 - (j + 1)) - 1, A), ⟨rfl, rfl, rfl, k + 1, by omega, nI_1 k, by rw [cntN_t hbk, hck], fun q => ?_⟩, ?_⟩
        · have hjm : j = m := by omega
          have : k = f := by
            rcases Nat.lt_trichotomy k f with q | q | q
            · have := cntN_step (brT A) q hbk; omega
            · exact q
            · have := cntN_step (brT A) q hbf; omega
          omega
        · intro k0
          dsimp only
          unfold bX6_run_33
          have e4 : nI (m + 1 - j) - 1 = nI (m - j) := by rw [show (1 : Int32) = nI 1 from rfl, pk_sub (by omega)]; congr 1; omega
          rw [e4, if_neg (nI_pos (by omega)), es]
          refine lp_go _ (fun i => (y1, nI (s + i), nI (m - j), A)) _ (k - s) (by omega) ?_ ?_
          · intro i hi kk
            dsimp only
            unfold bX6_run_41
            rw [m_begins h.1 (show s + i < nT A by omega), ob1_s, hno (s + i) (by omega) (by omega), if_pos (by decide), nI_1]
            rfl
          · intro kk
            dsimp only
            unfold bX6_run_41
            rw [show s + (k - s) = k from by omega, m_begins h.1 hk, ob1_s, hbk, if_neg (by decide), show m + 1 - (j + 1) = m - j from by omega, Int32.sub_eq_add_neg]
      · rintro ⟨y1, y2, y3, A⟩ ⟨e1, e3, eA, s, hs, es, hcs, hsq⟩
        dsimp only at e1 e3 eA es
        subst e1; subst e3; subst eA
        have e5 := hsq rfl
        subst e5
        have e6 : y2 = nI f := by
          have : y2 + 1 = nI f + 1 := by rw [es, nI_1]
          have h2 := congrArg (fun z => z - 1) this
          simpa [Int32.add_sub_cancel] using h2
        refine ⟨_, rfl, ?_⟩
        intro k0
        dsimp only
        unfold bX6_run_33
        rw [Nat.sub_self, if_pos (by decide), e6]
        exact hm70
    rw [hfirst, ob1_s, if_neg (nI_ne9' (show f < 2 ^ 31 by omega)), hlen, ob1_s, hm33, x_fill h, ob1_s, hjoin, ob1_s, x_bc hS8]
    unfold bX6_run_108
    rw [m_size, ob1_s]
    have hRF := Rel_cor h (filX_cor S T (nT T)) (cor_rfl T)
    by_cases w0 : w = 0
    · rw [if_pos w0, if_pos (show 0 ≤ w ∧ w ≤ 2 by rw [w0]; decide), if_pos w0]; exact ⟨_, _, rfl, rfl, h⟩
    · rw [if_neg w0, if_neg w0]
      by_cases w1 : w = 1
      · rw [if_pos w1, if_pos (show 0 ≤ w ∧ w ≤ 2 by rw [w1]; decide), if_pos w1]; exact ⟨_, _, rfl, rfl, h⟩
      · rw [if_neg w1, if_neg w1]
        by_cases w2 : w = 2
        · rw [if_pos w2, if_pos (show 0 ≤ w ∧ w ≤ 2 by rw [w2]; decide)]; exact ⟨_, _, rfl, rfl, hRF⟩
        · rw [if_neg w2, if_neg (fun z => by
            obtain ⟨j, hj, e⟩ := nI_of2 (x := w) (M := 2) (n := 2) rfl (fun y => by
              have a := Int32.lt_iff_toInt_lt.mp y
              have b := Int32.le_iff_toInt_le.mp z.1
              omega) z.2
            rcases (show j = 0 ∨ j = 1 ∨ j = 2 by omega) with rfl | rfl | rfl
            · exact w0 e
            · exact w1 e
            · exact w2 e)]
          exact ⟨_, _, rfl, rfl, h⟩
  · rw [if_neg hx]
    have hfirst : fX3_firstOfRun x S = some (-9) := by
      unfold fX3_firstOfRun
      refine lp_go _ (fun j => (x, nI (cntN (brT T) j), nI j, S)) _ (nT T) (by omega) ?_ ?_
      · intro j hj k0
        dsimp only
        rw [hstepX j hj]
        cases hb : brT T j
        · rw [if_neg (by simp)]
        · have h1 := cntN_step (brT T) hj hb
          rw [if_pos rfl, if_neg (fun z => hx (hin.mpr ⟨_, h1, z.symm⟩))]
      · intro k0
        dsimp only
        unfold bX3_firstOfRun_4
        rw [h.2.2.2.2.2.2.2.1, hn.1, if_pos (nI_le (Nat.le_refl _) (by omega))]
    rw [hfirst, ob1_s, if_pos rfl]
    exact ⟨_, _, rfl, rfl, h⟩
