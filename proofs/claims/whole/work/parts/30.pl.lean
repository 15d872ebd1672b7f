/-! rank, many -/
theorem hc_le (T : MS) (p : Nat) : hcN T p ≤ nT T := cntN_le _ _
theorem mc_le (T : MS) (p : Nat) : mcN T p ≤ nT T := cntN_le _ _
def rkB (T : MS) (q p : Nat) : Bool := decide (hcN T p < hcN T q ∨ (hcN T q = hcN T p ∧ (mcN T p < mcN T q ∨ (mcN T q = mcN T p ∧ q < p))))
def plN (T : MS) (p : Nat) : Nat := cntN (fun q => tb (thT T) q && rkB T q p) 8
theorem m_ahead {T B : MS} (h : wfM T) (hB : sureM T B) {p : Nat} (hp : p < 8) : fX6_aheadOf (nI p) B = some (nI (plN T p)) := by
  have hn := h.1
  unfold fX6_aheadOf plN
  refine lp_go _ (fun j => (nI p, nI (cntN (fun q => tb (thT T) q && rkB T q p) j), nI j, B)) _ 8 (by omega) ?_ ?_
  · intro j hj k0
    dsimp only
    have e70 : ∀ b : Bool, b = rkB T j p → bX6_aheadOf_70 k0 (nI p) (nI (cntN (fun q => tb (thT T) q && rkB T q p) j)) (nI j) b B = k0 (nI p, nI (cntN (fun q => tb (thT T) q && rkB T q p) (j + 1)), nI (j + 1), B) := by
      intro b hb
      unfold bX6_aheadOf_70
      rw [m_isThere, ob1_s, if_bi, if_bi, isTh_nI B hj, cor_th hB.1]
      simp only [bnd_s]
      rw [Int32.add_zero, nI_1, nI_1]
      cases ht : tb (thT T) j
      · rw [if_neg (by simp), cntN_f (by rw [ht]; rfl)]
      · rw [if_pos rfl]
        cases b
        · rw [if_neg (by simp), cntN_f (by rw [ht, ← hb]; rfl)]
        · rw [if_pos rfl, cntN_t (by rw [ht, ← hb]; rfl)]
    unfold bX6_aheadOf_4
    rw [if_neg (ge8n hj), m_had h hB hj, ob1_s, m_had h hB hp, ob1_s, bnd_s, m_may' h hB hj, ob1_s, m_may' h hB hp, ob1_s, bnd_s]
    have h1 := hc_le T j
    have h2 := hc_le T p
    have h3 := mc_le T j
    have h4 := mc_le T p
    have i1 : (nI (hcN T j) - nI (hcN T p)).toInt = (hcN T j : Int) - hcN T p := pk_sub_toInt (by omega) (by omega)
    have i2 : (nI (mcN T j) - nI (mcN T p)).toInt = (mcN T j : Int) - mcN T p := pk_sub_toInt (by omega) (by omega)
    have z0 : (0 : Int32).toInt = 0 := rfl
    have c1 : (0 < nI (hcN T j) - nI (hcN T p)) ↔ hcN T p < hcN T j := by rw [Int32.lt_iff_toInt_lt, i1, z0]; omega
    have c2 : (nI (hcN T j) - nI (hcN T p) = 0) ↔ hcN T j = hcN T p := by rw [← Int32.toInt_inj, i1, z0]; omega
    have c3 : (0 < nI (mcN T j) - nI (mcN T p)) ↔ mcN T p < mcN T j := by rw [Int32.lt_iff_toInt_lt, i2, z0]; omega
    have c4 : (nI (mcN T j) - nI (mcN T p) = 0) ↔ mcN T j = mcN T p := by rw [← Int32.toInt_inj, i2, z0]; omega
    have c5 : (nI p ≤ nI j) ↔ p ≤ j := nI_leI (by omega) (by omega)
    by_cases q1 : hcN T p < hcN T j
    · rw [if_pos (c1.mpr q1)]
      exact e70 true (by unfold rkB; rw [decide_eq_true (Or.inl q1)])
    · rw [if_neg (fun z => q1 (c1.mp z))]
      by_cases q2 : hcN T j = hcN T p
      · rw [if_pos (c2.mpr q2)]
        by_cases q3 : mcN T p < mcN T j
        · rw [if_pos (c3.mpr q3)]
          exact e70 true (by unfold rkB; rw [decide_eq_true (Or.inr ⟨q2, Or.inl q3⟩)])
        · rw [if_neg (fun z => q3 (c3.mp z))]
          by_cases q4 : mcN T j = mcN T p
          · rw [if_pos (c4.mpr q4)]
            by_cases q5 : p ≤ j
            · rw [if_pos (c5.mpr q5)]
              exact e70 false (by unfold rkB; symm; rw [decide_eq_false_iff_not]; omega)
            · rw [if_neg (fun z => q5 (c5.mp z))]
              exact e70 true (by unfold rkB; rw [decide_eq_true]; omega)
          · rw [if_neg (fun z => q4 (c4.mp z))]
            exact e70 false (by unfold rkB; symm; rw [decide_eq_false_iff_not]; omega)
      · rw [if_neg (fun z => q2 (c2.mp z))]
        exact e70 false (by unfold rkB; symm; rw [decide_eq_false_iff_not]; omega)
  · intro k0
    dsimp only
    unfold bX6_aheadOf_4
    rw [if_pos ge8]
theorem x_ahead {T : MS} {B : XS} (hn : nT T ≤ 16) (h7 : ∀ p, p < 8 → xa B 17 p = nI (hcN T p)) (h8 : ∀ p, p < 8 → xa B 18 p = nI (mcN T p)) {q p : Nat} (hq : q < 8) (hp : p < 8) : fX5_ranksAhead (nI q) (nI p) B = some (rkB T q p) := by
  unfold fX5_ranksAhead
  rw [show (8 : Int32) = nI 8 from rfl, within_nI hq (by omega), if_neg (by decide), within_nI hp (by omega), if_neg (by decide)]
  simp only [ck_in (inb_nI hq (show 8 < 2 ^ 31 by decide)), ck_in (inb_nI hp (show 8 < 2 ^ 31 by decide)), cl_nI (show q < 2 ^ 31 by omega), cl_nI (show p < 2 ^ 31 by omega), h7 q hq, h7 p hp, h8 q hq, h8 p hp]
  have h1 := hc_le T q
  have h2 := hc_le T p
  have h3 := mc_le T q
  have h4 := mc_le T p
  have c1 : (nI (hcN T q) = nI (hcN T p)) ↔ hcN T q = hcN T p := nI_eq (by omega) (by omega)
  have c2 : (nI (mcN T q) = nI (mcN T p)) ↔ mcN T q = mcN T p := nI_eq (by omega) (by omega)
  have c3 : (nI (hcN T q) ≤ nI (hcN T p)) ↔ hcN T q ≤ hcN T p := nI_leI (by omega) (by omega)
  have c4 : (nI (mcN T q) ≤ nI (mcN T p)) ↔ mcN T q ≤ mcN T p := nI_leI (by omega) (by omega)
  have c5 : (nI p ≤ nI q) ↔ p ≤ q := nI_leI (by omega) (by omega)
  unfold rkB
  by_cases q1 : hcN T q = hcN T p
  · rw [if_pos (c1.mpr q1)]
    by_cases q2 : mcN T q = mcN T p
    · rw [if_pos (c2.mpr q2)]
      by_cases q3 : p ≤ q
      · rw [if_pos (c5.mpr q3), decide_eq_false (by omega)]
      · rw [if_neg (fun z => q3 (c5.mp z)), decide_eq_true (by omega)]
    · rw [if_neg (fun z => q2 (c2.mp z))]
      by_cases q3 : mcN T q ≤ mcN T p
      · rw [if_pos (c4.mpr q3), decide_eq_false (by omega)]
      · rw [if_neg (fun z => q3 (c4.mp z)), decide_eq_true (by omega)]
  · rw [if_neg (fun z => q1 (c1.mp z))]
    by_cases q3 : hcN T q ≤ hcN T p
    · rw [if_pos (c3.mpr q3), decide_eq_false (by omega)]
    · rw [if_neg (fun z => q3 (c3.mp z)), decide_eq_true (by omega)]
theorem x_place {T : MS} {B : XS} (hR : Rel B T) (h7 : ∀ p, p < 8 → xa B 17 p = nI (hcN T p)) (h8 : ∀ p, p < 8 → xa B 18 p = nI (mcN T p)) {p : Nat} (hp : p < 8) : fX5_placeByRank (nI p) B = some (nI (plN T p)) := by
  have hn := hR.1.1
  unfold fX5_placeByRank plN
  refine lp_go _ (fun j => (nI p, nI (cntN (fun q => tb (thT T) q && rkB T q p) j), nI j, B)) _ 8 (by omega) ?_ ?_
  · intro j hj k0
    dsimp only
    unfold bX5_placeByRank_4
    rw [if_neg (ge8n hj), x_isThere hR, isTh_nI T hj, if_bi, x_ahead hn.2 h7 h8 hj hp, ob1_s, if_bi, nI_1, nI_1]
    cases ht : tb (thT T) j
    · rw [if_neg (by simp), cntN_f (by rw [ht]; rfl)]
    · rw [if_pos rfl]
      cases hb : rkB T j p
      · rw [if_neg (by simp), cntN_f (by rw [ht, hb]; rfl)]
      · rw [if_pos rfl, cntN_t (by rw [ht, hb]; rfl)]
  · intro k0
    dsimp only
    unfold bX5_placeByRank_4
    rw [if_pos ge8]
def rkP (T : MS) (x : Int32) : Nat → Bool := fun p => tb (thT T) p && decide (nI (plN T p) = x)
theorem least8 (P : Nat → Bool) : ∃ c, c ≤ 8 ∧ (∀ j, j < c → P j = false) ∧ (c < 8 → P c = true) := by
  by_cases hex : ∃ i, i < 8 ∧ P i = true
  · obtain ⟨i, ⟨hi, hpi⟩, hmin⟩ := pk_least _ hex
    refine ⟨i, by omega, fun j hj => ?_, fun _ => hpi⟩
    cases hq : P j
    · rfl
    · exact absurd ⟨by omega, hq⟩ (hmin j hj)
  · refine ⟨8, by omega, fun j hj => ?_, fun h => by omega⟩
    cases hq : P j
    · rfl
    · exact absurd ⟨j, hj, hq⟩ hex
theorem sim_rank {S : XS} {T : MS} (h : Rel S T) (x : Int32) : ∃ r S' T', fX5_rank x S = some (r, S') ∧ fX6_rank x T = some (r, T') ∧ Rel S' T' := by
  have hn := h.1.1
  unfold fX5_rank fX6_rank
  rw [within_eq, if_bid, x_within, if_bid]
  by_cases hx : 0 ≤ x ∧ x ≤ 7
  · rw [if_pos hx, if_pos ((lt8 x).mpr hx)]
    obtain ⟨⟨B, h1, hRB, -, -, hsB⟩, C, h2, hsC⟩ := both_sure h
    obtain ⟨c, hc8, hcn, hch⟩ := least8 (rkP T x)
    rw [x_fill h, ob1_s, h1, ob2_s, h2, ob1_s]
    -- the reference
    have hm : lp (fun k q => bX6_rank_19 k q.1 q.2.1 q.2.2) FU (x, 0, C) = some (if c < 8 then nI c else -9, C) := by
      have step : ∀ j, j < 8 → ∀ k0 : Int32 × Int32 × MS → Option (Int32 × MS), bX6_rank_19 k0 x (nI j) C = if rkP T x j = true then some (nI j, C) else k0 (x, nI (j + 1), C) := by
        intro j hj k0
        unfold bX6_rank_19 rkP
        rw [if_neg (ge8n hj), m_isThere, ob1_s, if_bi, isTh_nI C hj, cor_th hsC.1, m_ahead h.1 hsC hj, ob1_s, nI_1]
        cases tb (thT T) j
        · rfl
        · by_cases q : nI (plN T j) = x
          · rw [if_pos rfl, if_pos q]; simp [q]
          · rw [if_pos rfl, if_neg q]; simp [q]
      refine lp_go _ (fun j => (x, nI j, C)) _ c (by omega) ?_ ?_
      · intro j hj k0
        dsimp only
        rw [step j (by omega), hcn j hj, if_neg (by simp)]
      · intro k0
        dsimp only
        by_cases q : c < 8
        · rw [step c q, hch q, if_pos rfl, if_pos q]
        · have : c = 8 := by omega
          subst this
          unfold bX6_rank_19
          rw [if_pos ge8, if_neg (by omega)]
    -- the class: the counts, then the place
    have hx' : ∃ B', lp (fun k q => bX5_rank_26 k q.1 q.2.1 q.2.2) FU (x, 0, B) = some (if c < 8 then nI c else -9, B') ∧ Rel B' T := by
      refine lp_in _ (fun (j : Nat) (q : Int32 × Int32 × XS) => q.1 = x ∧ q.2.1 = nI j ∧ frX (fun a => a = 17 ∨ a = 18) B q.2.2 ∧ ∀ p, p < j → xa q.2.2 17 p = nI (hcN T p) ∧ xa q.2.2 18 p = nI (mcN T p)) (fun z => ∃ B', z = some (if c < 8 then nI c else -9, B') ∧ Rel B' T) 8 (by omega) (x, 0, B) ⟨rfl, rfl, frX_rfl _ _, fun p hp => by omega⟩ ?_ ?_
      · rintro j ⟨y1, y2, E⟩ hj ⟨e1, e2, hE, hEr⟩
        dsimp only at e1 e2 hE hEr
        subst e1; subst e2
        have hsE : sureX T E := ⟨by rw [hE.1]; exact hsB.1, fun k hk => by rw [hE.2.2 15 (by rintro (e | e) <;> omega)]; exact hsB.2 k hk⟩
        let E1 := xaW E 17 j (nI (hcN T j))
        have hsE1 : sureX T E1 := ⟨hsE.1, fun k hk => by rw [show xa E1 15 = xa E 15 from xa_xaW' E j _ (by decide)]; exact hsE.2 k hk⟩
        refine ⟨(y1, nI (j + 1), xaW E1 18 j (nI (mcN T j))), ⟨rfl, rfl, frX_trans hE (frX_trans (frX_xa (P := fun a => a = 17 ∨ a = 18) E (a := 17) (Or.inl rfl) _ _) (frX_xa (P := fun a => a = 17 ∨ a = 18) E1 (a := 18) (Or.inr rfl) _ _)), ?_⟩, ?_⟩
        · intro p hp
          show xa (xaW E1 18 j _) 17 p = _ ∧ xa (xaW E1 18 j _) 18 p = _
          rw [xa_xaW' _ _ _ (by decide), xa_xaW, xa_xaW, show xa E1 18 = xa E 18 from xa_xaW' E j _ (by decide)]
          by_cases e : p = j
          · subst e; rw [upd_s, upd_s]; exact ⟨rfl, rfl⟩
          · rw [upd_n _ _ e, upd_n _ _ e]; exact hEr p (by omega)
        · intro k0
          dsimp only
          unfold bX5_rank_26
          rw [if_neg (ge8n hj), x_had hn.2 hsE hj, ob1_s, ck_in (inb_nI hj (by decide)), cl_nI (by omega), bnd_s, x_maybe hn.2 hsE1 hj, ob1_s, ck_in (inb_nI hj (by decide)), bnd_s, nI_1]
      · rintro ⟨y1, y2, E⟩ ⟨e1, e2, hE, hEr⟩
        dsimp only at e1 e2 hE hEr
        subst e1; subst e2
        have hRE : Rel E T := Rel_cor hRB (frX_cor hE (fun a e => by rcases e with e | e <;> omega)) (cor_rfl T)
        refine ⟨_, ⟨E, rfl, hRE⟩, ?_⟩
        intro k0
        dsimp only
        unfold bX5_rank_26
        rw [if_pos ge8]
        have step : ∀ j, j < 8 → ∀ k0 : Int32 × Int32 × XS → Option (Int32 × XS), bX5_rank_68 k0 y1 (nI j) E = if rkP T y1 j = true then some (nI j, E) else k0 (y1, nI (j + 1), E) := by
          intro j hj k0
          unfold bX5_rank_68 rkP
          rw [if_neg (ge8n hj), x_isThere hRE, if_bi, isTh_nI T hj, x_place hRE (fun p hp => (hEr p hp).1) (fun p hp => (hEr p hp).2) hj, ob1_s, nI_1]
          cases tb (thT T) j
          · rfl
          · by_cases q : nI (plN T j) = y1
            · rw [if_pos rfl, if_pos q]; simp [q]
            · rw [if_pos rfl, if_neg q]; simp [q]
        refine lp_go _ (fun j => (y1, nI j, E)) _ c (by omega) ?_ ?_
        · intro j hj k0
          dsimp only
          rw [step j (by omega), hcn j hj, if_neg (by simp)]
        · intro k0
          dsimp only
          by_cases q : c < 8
          · rw [step c q, hch q, if_pos rfl, if_pos q]
          · have : c = 8 := by omega
            subst this
            unfold bX5_rank_68
            rw [if_pos ge8, if_neg (by omega)]
    obtain ⟨B', hB', hRB'⟩ := hx'
    rw [hm, hB']
    exact ⟨_, _, _, rfl, rfl, Rel_cor hRB' (corX_rfl _) hsC.1⟩
  · rw [if_neg hx, if_neg (fun z => hx ((lt8 x).mp z))]
    exact ⟨_, _, _, rfl, rfl, h⟩
def brT (T : MS) (k : Nat) : Bool := spT T k && !(decide (0 < k) && spT T (k - 1))
theorem m_begins {T : MS} (h : wfM T) {k : Nat} (hk : k < nT T) : fX6_beginsRun (nI k) T = some (brT T k) := by
  have hn := h.1
  unfold fX6_beginsRun brT
  rw [m_speaks T (by omega) (h.2.2.2.2.2 k hk).1, ob1_s, if_bi]
  cases spT T k
  · rfl
  · rw [if_pos rfl]
    by_cases h0 : k = 0
    · subst h0; rw [if_pos (show nI 0 = 0 from rfl)]; rfl
    · rw [if_neg (show ¬ nI k = 0 from fun z => h0 ((nI_eq (b := 0) (by omega) (by omega)).mp z)), show nI k - 1 = nI (k - 1) from by rw [show (1 : Int32) = nI 1 from rfl, pk_sub (by omega)], m_speaks T (by omega) (h.2.2.2.2.2 (k - 1) (by omega)).1, ob1_s, if_bi]
      cases hs : spT T (k - 1)
      · simp
      · simp; omega
theorem x_begins {S : XS} {T : MS} (h : Rel S T) {k : Nat} (hk : k < nT T) : fX3_beginsRun (nI k) S = some (brT T k) := by
  have hn := h.1.1
  unfold fX3_beginsRun brT
  rw [x_speaksAt h hk, ob1_s, if_bi]
  cases spT T k
  · rfl
  · rw [if_pos rfl]
    by_cases h0 : k = 0
    · subst h0
      rw [x_speaksAt_out h (x := nI 0 - 1) (by rintro ⟨a, -⟩; exact absurd a (by decide)), ob1_s]; rfl
    · rw [show nI k - 1 = nI (k - 1) from by rw [show (1 : Int32) = nI 1 from rfl, pk_sub (by omega)], x_speaksAt h (show k - 1 < nT T by omega), ob1_s, if_bi]
      cases hs : spT T (k - 1)
      · simp
      · simp; omega
def ruN (T : MS) : Nat := cntN (brT T) (nT T)
theorem m_runs {T : MS} (h : wfM T) : fX6_runs T = some (nI (ruN T)) := by
  have hn := h.1
  unfold fX6_runs ruN
  refine lp_go _ (fun j => (nI (cntN (brT T) j), nI j, T)) _ (nT T) (by omega) ?_ ?_
  · intro j hj k0
    dsimp only
    unfold bX6_runs_4
    rw [hn.1, if_neg (nI_ge hj (by omega)), m_begins h hj, ob1_s, if_bi, bnd_s, bnd_s, Int32.add_zero, nI_1, nI_1]
    cases hb : brT T j
    · rw [if_neg (by simp), cntN_f hb]
    · rw [if_pos rfl, cntN_t hb]
  · intro k0
    dsimp only
    unfold bX6_runs_4
    rw [hn.1, if_pos (nI_le (Nat.le_refl _) (by omega))]
theorem x_runs {S : XS} {T : MS} (h : Rel S T) : fX3_runs S = some (nI (ruN T)) := by
  have hn := h.1.1
  unfold fX3_runs ruN
  refine lp_go _ (fun j => (nI (cntN (brT T) j), nI j, S)) _ (nT T) (by omega) ?_ ?_
  · intro j hj k0
    dsimp only
    unfold bX3_runs_4
    rw [h.2.2.2.2.2.2.2.1, hn.1, if_neg (nI_ge hj (by omega)), x_begins h hj, ob1_s, if_bi, nI_1, nI_1]
    cases hb : brT T j
    · rw [if_neg (by simp), cntN_f hb]
    · rw [if_pos rfl, cntN_t hb]
  · intro k0
    dsimp only
    unfold bX3_runs_4
    rw [h.2.2.2.2.2.2.2.1, hn.1, if_pos (nI_le (Nat.le_refl _) (by omega))]
theorem m_manySpeak {T : MS} (h : wfM T) : fX6_manySpeak T = some (nI (cntN (spT T) (nT T))) := by
  have hn := h.1
  unfold fX6_manySpeak
  refine lp_go _ (fun j => (nI (cntN (spT T) j), nI j, T)) _ (nT T) (by omega) ?_ ?_
  · intro j hj k0
    dsimp only
    unfold bX6_manySpeak_4
    rw [hn.1, if_neg (nI_ge hj (by omega)), m_speaks T (by omega) (h.2.2.2.2.2 j hj).1, ob1_s, if_bi, bnd_s, bnd_s, Int32.add_zero, nI_1, nI_1]
    cases hb : spT T j
    · rw [if_neg (by simp), cntN_f hb]
    · rw [if_pos rfl, cntN_t hb]
  · intro k0
    dsimp only
    unfold bX6_manySpeak_4
    rw [hn.1, if_pos (nI_le (Nat.le_refl _) (by omega))]
theorem x_speaking {S : XS} {T : MS} (h : Rel S T) : fX3_speaking S = some (nI (cntN (spT T) (nT T))) := by
  have hn := h.1.1
  unfold fX3_speaking
  refine lp_go _ (fun j => (nI (cntN (spT T) j), nI j, S)) _ (nT T) (by omega) ?_ ?_
  · intro j hj k0
    dsimp only
    unfold bX3_speaking_4
    rw [h.2.2.2.2.2.2.2.1, hn.1, if_neg (nI_ge hj (by omega)), x_speaksAt h hj, ob1_s, if_bi, nI_1, nI_1]
    cases hb : spT T j
    · rw [if_neg (by simp), cntN_f hb]
    · rw [if_pos rfl, cntN_t hb]
  · intro k0
    dsimp only
    unfold bX3_speaking_4
    rw [h.2.2.2.2.2.2.2.1, hn.1, if_pos (nI_le (Nat.le_refl _) (by omega))]
theorem m_hints {T : MS} (h : wfM T) : fX6_manyHints T = some (nI (cntN (fun k => decide (ma T 8 k ≠ -9)) (nT T))) := by
  have hn := h.1
  unfold fX6_manyHints
  refine lp_go _ (fun j => (nI (cntN (fun k => decide (ma T 8 k ≠ -9)) j), nI j, T)) _ (nT T) (by omega) ?_ ?_
  · intro j hj k0
    dsimp only
    unfold bX6_manyHints_4
    rw [hn.1, if_neg (nI_ge hj (by omega)), ck_in (inb_nI (by omega) (by decide)), cl_nI (by omega), bnd_s, bnd_s, Int32.add_zero, nI_1, nI_1]
    by_cases q : ma T 8 j = -9
    · rw [if_pos q, cntN_f (by simp [q])]
    · rw [if_neg q, cntN_t (by simp [q])]
  · intro k0
    dsimp only
    unfold bX6_manyHints_4
    rw [hn.1, if_pos (nI_le (Nat.le_refl _) (by omega))]
theorem x_hints {S : XS} {T : MS} (h : Rel S T) : fX3_hints S = some (nI (cntN (fun k => decide (ma T 8 k ≠ -9)) (nT T))) := by
  have hn := h.1.1
  unfold fX3_hints
  refine lp_go _ (fun j => (nI (cntN (fun k => decide (ma T 8 k ≠ -9)) j), nI j, S)) _ (nT T) (by omega) ?_ ?_
  · intro j hj k0
    dsimp only
    unfold bX3_hints_4
    have e : fX1_hintSet j S = some (ma T 8 j) := by
      unfold fX1_hintSet
      rw [if_pos (by omega), (h.2.2.2.2.2.2.2.2.1 j hj).2.2.2.1]
    rw [h.2.2.2.2.2.2.2.1, hn.1, if_neg (nI_ge hj (by omega)), x_par h hj, ob1_s, e, ob1_s, nI_1, nI_1]
    by_cases q : ma T 8 j = -9
    · rw [if_pos q, cntN_f (by simp [q])]
    · rw [if_neg q, cntN_t (by simp [q])]
  · intro k0
    dsimp only
    unfold bX3_hints_4
    rw [h.2.2.2.2.2.2.2.1, hn.1, if_pos (nI_le (Nat.le_refl _) (by omega))]
theorem m_sureOne {T C : MS} (h : wfM T) (hC : sureM T C) : lp (fun k q => bX6_manySure_8 k q.1 q.2.1 q.2.2) FU (0, 0, C) = some (nI (cntN (fun k => decide (sz (suT T k) = 1)) (nT T)), C) := by
  have hn := h.1
  have h3 : mi C 3 = nI (nT T) := by rw [hC.1.1 3 (by omega)]; exact hn.1
  refine lp_go _ (fun j => (nI (cntN (fun k => decide (sz (suT T k) = 1)) j), nI j, C)) _ (nT T) (by omega) ?_ ?_
  · intro j hj k0
    dsimp only
    unfold bX6_manySure_8
    have hs := sz_le (suT T j)
    rw [h3, if_neg (nI_ge hj (by omega)), ck_in (inb_nI (by omega) (by decide)), cl_nI (by omega), hC.2.2 j hj, m_size, ob1_s, bnd_s, bnd_s, Int32.add_zero, nI_1, nI_1]
    by_cases q : sz (suT T j) = 1
    · rw [if_pos (show nI (sz (suT T j)) = 1 by rw [q]; rfl), cntN_t (by rw [decide_eq_true_iff]; exact q)]
    · rw [if_neg (show ¬ nI (sz (suT T j)) = 1 from fun z => q ((nI_eq (b := 1) (by omega) (by omega)).mp z)), cntN_f (by rw [decide_eq_false_iff_not]; exact q)]
  · intro k0
    dsimp only
    unfold bX6_manySure_8
    rw [h3, if_pos (nI_le (Nat.le_refl _) (by omega))]
theorem x_sureOne {T : MS} (hn : nT T ≤ 16) {B : XS} (hB : sureX T B) : fX0_setsSureOfOne B = some (nI (cntN (fun k => decide (sz (suT T k) = 1)) (nT T))) := by
  unfold fX0_setsSureOfOne
  refine lp_go _ (fun j => (nI (cntN (fun k => decide (sz (suT T k) = 1)) j), nI j, B)) _ (nT T) (by omega) ?_ ?_
  · intro j hj k0
    dsimp only
    unfold bX0_setsSureOfOne_4
    have hs := sz_le (suT T j)
    rw [hB.1, if_neg (nI_ge hj (by omega)), x_sur hB.1 hn, ob1_s, rd_in _ hn hj, hB.2 j hj, x_bc (S8_suN _ _ _ _ _), nI_1, nI_1]
    by_cases q : sz (suT T j) = 1
    · rw [if_pos (show nI (sz (suN (nT T) (spT T) (oT T) (lkT T) j)) = 1 by rw [show sz (suN (nT T) (spT T) (oT T) (lkT T) j) = 1 from q]; rfl), cntN_t (by rw [decide_eq_true_iff]; exact q)]
    · rw [if_neg (show ¬ nI (sz (suN (nT T) (spT T) (oT T) (lkT T) j)) = 1 from fun z => q ((nI_eq (b := 1) (by omega) (by omega)).mp z)), cntN_f (by rw [decide_eq_false_iff_not]; exact q)]
  · intro k0
    dsimp only
    unfold bX0_setsSureOfOne_4
    rw [hB.1, if_pos (nI_le (Nat.le_refl _) (by omega))]
theorem sim_many {S : XS} {T : MS} (h : Rel S T) (w : Int32) : ∃ r S' T', fX5_many w S = some (r, S') ∧ fX6_many w T = some (r, T') ∧ Rel S' T' := by
  have hn := h.1.1
  obtain ⟨⟨B, h1, hRB, -, -, hsB⟩, C, h2, hsC⟩ := both_sure h
  have hms : fX6_manySure T = some (nI (cntN (fun k => decide (sz (suT T k) = 1)) (nT T)), C) := by
    unfold fX6_manySure
    rw [h2, ob1_s, m_sureOne h.1 hsC]
  unfold fX5_many fX6_many fX2_thereSet fX3_length fX4_length
  rw [h.2.2.2.1, x_bc (S8_thT T), m_there, ob1_s, m_size, ob1_s, x_speaking h, ob1_s, m_manySpeak h.1, ob1_s, x_runs h, ob1_s, m_runs h.1, ob1_s, x_fill h, ob1_s, h1, ob2_s, x_sureOne hn.2 hsB, ob1_s, hms, ob2_s, x_hints h, ob1_s, m_hints h.1, ob1_s, h.2.2.2.2.2.2.2.1, h.2.2.2.2.2.1, h.2.1, h.2.2.1]
  by_cases w0 : w = 0
  · rw [if_pos w0, if_pos w0]; exact ⟨_, _, _, rfl, rfl, h⟩
  · rw [if_neg w0, if_neg w0]
    by_cases w1 : w = 1
    · rw [if_pos w1, if_pos w1]; exact ⟨_, _, _, rfl, rfl, h⟩
    · rw [if_neg w1, if_neg w1]
      by_cases w2 : w = 2
      · rw [if_pos w2, if_pos w2]; exact ⟨_, _, _, rfl, rfl, h⟩
      · rw [if_neg w2, if_neg w2]
        by_cases w3 : w = 3
        · rw [if_pos w3, if_pos w3]; exact ⟨_, _, _, rfl, rfl, h⟩
        · rw [if_neg w3, if_neg w3]
          by_cases w4 : w = 4
          · rw [if_pos w4, if_pos w4]; exact ⟨_, _, _, rfl, rfl, Rel_cor hRB (corX_rfl _) hsC.1⟩
          · rw [if_neg w4, if_neg w4]
            by_cases w5 : w = 5
            · rw [if_pos w5, if_pos w5]; exact ⟨_, _, _, rfl, rfl, h⟩
            · rw [if_neg w5, if_neg w5]
              by_cases w6 : w = 6
              · rw [if_pos w6, if_pos w6]; exact ⟨_, _, _, rfl, rfl, h⟩
              · rw [if_neg w6, if_neg w6]
                by_cases w7 : w = 7
                · rw [if_pos w7, if_pos w7]; exact ⟨_, _, _, rfl, rfl, h⟩
                · rw [if_neg w7, if_neg w7]
                  by_cases w8 : w = 8
                  · rw [if_pos w8, if_pos w8]; exact ⟨_, _, _, rfl, rfl, h⟩
                  · rw [if_neg w8, if_neg w8]; exact ⟨_, _, _, rfl, rfl, h⟩
