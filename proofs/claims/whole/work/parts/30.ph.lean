/-! further calls: tape, cut, ofParagraph, link, ways, would, set -/
theorem par_in (T : MS) (x : Int32) (hn : nT T ≤ 16) : (0 ≤ x ∧ x < nI (nT T)) ↔ ∃ k, k < nT T ∧ x = nI k := lt_nI (by omega)
theorem x_holds {S : XS} {T : MS} (h : Rel S T) (x : Int32) : fX3_holds x S = decide (0 ≤ x ∧ x < nI (nT T)) := by
  have : fX3_holds x S = fX5_isWithin x (xi S 4) := rfl
  rw [this, x_within, h.2.2.2.2.2.2.2.1, h.1.1.1]
theorem m_isPar {T : MS} (h : wfM T) (x : Int32) : fX6_isParagraph x T = decide (0 ≤ x ∧ x < nI (nT T)) := by
  have hn := h.1
  unfold fX6_isParagraph
  rw [within_eq, hn.1]
  have e : (0 ≤ x ∧ x ≤ nI (nT T) - 1) ↔ (0 ≤ x ∧ x < nI (nT T)) := by
    rw [← inb_iff (by omega), par_in T x hn.2]
    constructor
    · exact inb_ex (by omega)
    · rintro ⟨k, hk, rfl⟩; exact inb_nI hk (by omega)
  by_cases q : 0 ≤ x ∧ x < nI (nT T)
  · rw [decide_eq_true q, decide_eq_true (e.mpr q)]
  · rw [decide_eq_false q, decide_eq_false (fun z => q (e.mp z))]
theorem sim_key {S : XS} {T : MS} (h : Rel S T) (c : Int32) : ∃ r S' T', fX5_key c S = some (r, S') ∧ fX6_key c T = some (r, T') ∧ Rel S' T' := by
  have ht := h.1.2.1
  unfold fX5_key fX6_key fX4_isFull
  rw [within_eq, if_bid, h.2.2.2.2.2.1, ht.1]
  by_cases hc : 0 ≤ c ∧ c ≤ 127
  · have hc0 : ¬ c < 0 := fun z => by
      have a := Int32.lt_iff_toInt_lt.mp z
      have b := Int32.le_iff_toInt_le.mp hc.1
      omega
    rw [if_neg hc0, if_pos hc.2, if_pos hc]
    by_cases hf : tT T = 12
    · rw [if_neg (show ¬ nI (tT T) < 12 from by rw [hf]; decide), if_neg (by decide), if_pos (by rw [hf]; rfl)]
      exact ⟨_, _, _, rfl, rfl, h⟩
    · have hlt : tT T < 12 := by omega
      rw [if_pos (show nI (tT T) < 12 from nI_lt (b := 12) hlt (by omega)), if_pos (by decide), if_neg (show ¬ nI (tT T) = 12 from fun z => hf ((nI_eq (b := 12) (by omega) (by omega)).mp z)), ck_in (inb_nI hlt (by decide)), cl_nI (by omega), bnd_s]
      have hx : fX4_put c S = some (xiW (xaW S 4 (tT T) c) 3 (nI (tT T + 1))) := by
        unfold fX4_put
        rw [h.2.2.2.2.2.1, ht.1, show (12 : Int32) = nI 12 from rfl, within_nI hlt (by omega), if_neg (by decide), ck_in (inb_nI hlt (by decide)), cl_nI (by omega), bnd_s]
        have e : xi (xaW S 4 (tT T) c) 3 = nI (tT T) := h.2.2.2.2.2.1.trans ht.1
        rw [e, bnd_s, nI_1]
      have e2 : mi (maW T 2 (tT T) c) 2 = nI (tT T) := ht.1
      rw [hx, ob1_s, e2, bnd_s, nI_1]
      have e3 : fX4_length (xiW (xaW S 4 (tT T) c) 3 (nI (tT T + 1))) = nI (tT T + 1) := xi_xiW _ 3 _
      have e4 : mi (miW (maW T 2 (tT T) c) 2 (nI (tT T + 1))) 2 = nI (tT T + 1) := mi_miW _ 2 _
      rw [e3, e4]
      refine ⟨_, _, _, rfl, rfl, ?_⟩
      obtain ⟨⟨hn, -, hst, hh, hru, hro⟩, x0, x1, x2, x3, x4, x5, x6, x7, x8⟩ := h
      have ao : ∀ a, a ≠ 2 → ma (maW T 2 (tT T) c) a = ma T a := fun a ha => ma_maW' T (tT T) c ha
      have hrow : ∀ k, rowEq T (miW (maW T 2 (tT T) c) 2 (nI (tT T + 1))) k := fun k => rowEq_of k (ao 3 (by decide)) (ao 4 (by decide)) (ao 5 (by decide))
      have hT : tT (miW (maW T 2 (tT T) c) 2 (nI (tT T + 1))) = tT T + 1 := by
        show (mi (miW (maW T 2 (tT T) c) 2 (nI (tT T + 1))) 2).toNatClampNeg = _
        rw [e4, cl_nI (by omega)]
      have hth : thT (miW (maW T 2 (tT T) c) 2 (nI (tT T + 1))) = thT T := by
        have : thB (miW (maW T 2 (tT T) c) 2 (nI (tT T + 1))) = thB T := by
          funext p; unfold thB; rw [show ma (miW (maW T 2 (tT T) c) 2 (nI (tT T + 1))) 1 = ma T 1 from ao 1 (by decide)]
        unfold thT; rw [this]
      refine ⟨⟨hn, ?_, ?_, hh, hru, ?_⟩, x0, x1, ?_, ?_, ?_, ?_, x6, ?_, x8⟩
      · rw [hT, e4]; exact ⟨rfl, by omega⟩
      · intro p hp
        rw [show ma (miW (maW T 2 (tT T) c) 2 (nI (tT T + 1))) 1 = ma T 1 from ao 1 (by decide)]
        exact hst p hp
      · intro k hk
        exact ⟨row_ok (hro k hk).1 (hrow k), more_row (congrFun (ao 6 (by decide)) k) (congrFun (ao 7 (by decide)) k) (congrFun (ao 8 (by decide)) k) (hro k hk).2⟩
      · rw [hth]; exact x2
      · intro p hp
        rw [show ma (miW (maW T 2 (tT T) c) 2 (nI (tT T + 1))) 1 = ma T 1 from ao 1 (by decide)]
        intro hne
        show xa (xaW S 4 (tT T) c) 2 p = _
        rw [xa_xaW' _ _ _ (by decide)]
        exact x3 p hp hne
      · rw [e4]; exact e3
      · rw [hT]
        intro j hj
        show xa (xaW S 4 (tT T) c) 4 j = ma (maW T 2 (tT T) c) 2 j
        rw [xa_xaW, ma_maW]
        by_cases e : j = tT T
        · subst e; rw [upd_s, upd_s]
        · rw [upd_n _ _ e, upd_n _ _ e]; exact x5 j (by omega)
      · intro k hk
        exact par_row (hro k hk).1 (hrow k) (congrFun (ao 6 (by decide)) k) (congrFun (ao 7 (by decide)) k) (congrFun (ao 8 (by decide)) k) (fun _ => rfl) (x7 k hk)
  · rw [if_neg hc]
    by_cases h0 : c < 0
    · rw [if_pos h0]; exact ⟨_, _, _, rfl, rfl, h⟩
    · rw [if_neg h0, if_neg (fun z => hc ⟨by
        apply Int32.le_iff_toInt_le.mpr
        have : ¬ c.toInt < (0 : Int32).toInt := fun z => h0 (Int32.lt_iff_toInt_lt.mpr z)
        omega, z⟩)]
      exact ⟨_, _, _, rfl, rfl, h⟩
/-- the tape wiped on both sides -/
theorem rel_wipe {S : XS} {T : MS} (h : Rel S T) : Rel (xiW S 3 0) (miW T 2 0) := by
  obtain ⟨⟨hn, -, hst, hh, hru, hro⟩, x0, x1, x2, x3, x4, x5, x6, x7, x8⟩ := h
  have hT : tT (miW T 2 0) = 0 := rfl
  refine ⟨⟨hn, ⟨rfl, by rw [hT]; omega⟩, hst, hh, hru, hro⟩, x0, x1, x2, x3, rfl, ?_, x6, x7, x8⟩
  intro j hj
  rw [hT] at hj
  omega
theorem sim_wipe {S : XS} {T : MS} (h : Rel S T) : ∃ r S' T', fX5_wipe S = some (r, S') ∧ fX6_wipe T = some (r, T') ∧ Rel S' T' := by
  unfold fX5_wipe fX6_wipe fX4_clear fX4_length
  rw [bnd_s, bnd_s, ob1_s, h.2.2.2.2.2.1, bnd_s, bnd_s]
  exact ⟨_, _, _, rfl, rfl, rel_wipe h⟩
theorem sim_cut {S : XS} {T : MS} (h : Rel S T) : ∃ r S' T', fX5_cut S = some (r, S') ∧ fX6_cut T = some (r, T') ∧ Rel S' T' := by
  have hn := h.1.1
  unfold fX5_cut fX6_cut fX3_length fX3_dropLast
  rw [h.2.2.2.2.2.2.2.1, hn.1]
  by_cases h0 : nT T = 0
  · rw [h0, if_pos (show nI 0 = 0 from rfl), if_pos (show nI 0 = 0 from rfl)]
    exact ⟨_, _, _, rfl, rfl, h⟩
  · rw [if_neg (show ¬ nI (nT T) = 0 from fun z => h0 ((nI_eq (b := 0) (by omega) (by omega)).mp z)), if_neg (show ¬ nI (nT T) = 0 from fun z => h0 ((nI_eq (b := 0) (by omega) (by omega)).mp z)), if_neg (show ¬ nI (nT T) ≤ 0 from nI_nle (by omega) (by omega)), bnd_s, bnd_s, ob1_s]
    have e1 : nI (nT T) - 1 = nI (nT T - 1) := by rw [show (1 : Int32) = nI 1 from rfl, pk_sub (by omega)]
    have e2 : xi (xiW S 4 (nI (nT T) - 1)) 4 = nI (nT T) - 1 := xi_xiW _ 4 _
    have e3 : mi (miW T 3 (nI (nT T) - 1)) 3 = nI (nT T) - 1 := mi_miW _ 3 _
    rw [e2, e3]
    refine ⟨_, _, _, rfl, rfl, ?_⟩
    obtain ⟨⟨-, ht, hst, hh, hru, hro⟩, x0, x1, x2, x3, x4, x5, x6, x7, x8⟩ := h
    have hN : nT (miW T 3 (nI (nT T) - 1)) = nT T - 1 := by
      show (mi (miW T 3 (nI (nT T) - 1)) 3).toNatClampNeg = _
      rw [e3, e1, cl_nI (by omega)]
    refine ⟨⟨by rw [hN, e3, e1]; exact ⟨rfl, by omega⟩, ht, hst, hh, hru, ?_⟩, x0, x1, x2, x3, x4, x5, by rw [e2, e3], ?_, x8⟩
    · rw [hN]; intro k hk; exact hro k (by omega)
    · rw [hN]; intro k hk; exact x7 k (by omega)
theorem sim_ofParagraph {S : XS} {T : MS} (h : Rel S T) (x w : Int32) : ∃ r, fX5_ofParagraph x w S = some r ∧ fX6_ofParagraph x w T = some r := by
  have hn := h.1.1
  unfold fX5_ofParagraph fX6_ofParagraph
  rw [x_holds h, m_isPar h.1, if_bid, if_bid]
  by_cases hx : 0 ≤ x ∧ x < nI (nT T)
  · rw [if_pos hx, if_pos hx]
    obtain ⟨k, hk, rfl⟩ := (par_in T x hn.2).mp hx
    obtain ⟨hr, hm⟩ := h.1.2.2.2.2.2 k hk
    obtain ⟨p2, p3, p4, p5, p6, p7, p8, p9, p10, p11, p12, p13⟩ := h.2.2.2.2.2.2.2.2.1 k hk
    rw [x_par h hk, ob1_s, ck_in (inb_nI (by omega) (by decide)), ck_in (inb_nI (by omega) (by decide)), ck_in (inb_nI (by omega) (by decide)), ck_in (inb_nI (by omega) (by decide)), cl_nI (by omega), m_manyOf T (by omega) hr, ob1_s, m_manyCounting T (by omega) hr, ob1_s, x_goesOn h hk, ob1_s, if_bid]
    unfold fX1_length fX1_quotes fX1_hereThen fX1_countingVerbs fX1_hintSet
    rw [if_pos (show k < 17 by omega), if_pos (show k < 17 by omega), if_pos (show k < 17 by omega), if_pos (show k < 17 by omega), if_pos (show k < 17 by omega), ob1_s, ob1_s, ob1_s, ob1_s, ob1_s, p2, p4, p5, p6, p9]
    by_cases w0 : w = 0
    · rw [if_pos w0, if_pos w0]; exact ⟨_, rfl, rfl⟩
    · rw [if_neg w0, if_neg w0]
      by_cases w1 : w = 1
      · rw [if_pos w1, if_pos w1]; exact ⟨_, rfl, rfl⟩
      · rw [if_neg w1, if_neg w1]
        by_cases w2 : w = 2
        · rw [if_pos w2, if_pos w2]
          rcases hm.1 with e | e
          · rw [e]; exact ⟨_, rfl, rfl⟩
          · rw [e]; exact ⟨_, rfl, rfl⟩
        · rw [if_neg w2, if_neg w2]
          by_cases w3 : w = 3
          · rw [if_pos w3]; exact ⟨_, rfl, rfl⟩
          · rw [if_neg w3]
            by_cases w4 : w = 4
            · rw [if_pos w4]; exact ⟨_, rfl, rfl⟩
            · rw [if_neg w4]
              by_cases w5 : w = 5
              · rw [if_pos w5]; exact ⟨_, rfl, rfl⟩
              · rw [if_neg w5]; exact ⟨_, rfl, rfl⟩
  · rw [if_neg hx, if_neg hx]; exact ⟨_, rfl, rfl⟩
theorem sim_link {S : XS} {T : MS} (h : Rel S T) (x : Int32) : ∃ r, fX5_link x S = some r ∧ fX6_link x T = some r := by
  have hn := h.1.1
  unfold fX5_link fX6_link
  rw [x_holds h, m_isPar h.1, if_bid, if_bid]
  by_cases hx : 0 ≤ x ∧ x < nI (nT T)
  · rw [if_pos hx, if_pos hx]
    obtain ⟨k, hk, rfl⟩ := (par_in T x hn.2).mp hx
    rw [h.2.2.1, x_linkAhead h hk, ob1_s, m_linkAt T h.1 (by omega), ob1_s]
    exact ⟨_, rfl, rfl⟩
  · rw [if_neg hx, if_neg hx]; exact ⟨_, rfl, rfl⟩
/-- the class, its chain filled -/
theorem fill_ch (S : XS) (T : MS) : chX (nT T) (spT T) (oT T) (lkT T) (filX S T (nT T)) := ⟨filX_5 S T _, filX_at S T _⟩
theorem own_S8 {T : MS} (h : wfM T) : ∀ k, k < nT T → S8 (oT T k) := fun k hk => S8_oT (h.2.2.2.2.2 k hk).2
theorem x_waysAll {S : XS} {T : MS} (h : Rel S T) : ∃ B, fX0_countWays (filX S T (nT T)) = some (lN (upT (spT T) (oT T) (lkT T) 0 (nT T)), B) ∧ Rel B T ∧ chX (nT T) (spT T) (oT T) (lkT T) B ∧ waysX (nT T) (spT T) (oT T) (lkT T) B ∧ (∀ k, k < 16 → xa B 15 k = ex0 (nT T) (suN (nT T) (spT T) (oT T) (lkT T)) k) := by
  obtain ⟨B, h1, h2, h3, h4⟩ := x_countWays h.1.1.2 (fill_ch S T) (lkT_ok T) (own_S8 h.1)
  exact ⟨B, h1, Rel_cor h (corX_trans (filX_cor S T _) (frX_cor h2 (fun a e => by have e : a = 15 := e; omega))) (cor_rfl T), chX_fr h2 (fun a e => by have e : a = 15 := e; omega) (fill_ch S T), h3, h4⟩
theorem sim_ways {S : XS} {T : MS} (h : Rel S T) : ∃ r S' T', fX5_ways S = some (r, S') ∧ fX6_ways T = some (r, T') ∧ Rel S' T' := by
  obtain ⟨B, h1, hR, -, -, -⟩ := x_waysAll h
  obtain ⟨C, h2, hf, -⟩ := m_findWays h.1
  unfold fX5_ways fX6_ways
  rw [x_fill h, ob1_s, h1, ob2_s, h2, ob2_s]
  exact ⟨_, _, _, rfl, rfl, Rel_cor hR (corX_rfl _) (frM_cor hf (fun a e => by omega))⟩
theorem sim_would {S : XS} {T : MS} (h : Rel S T) (x p : Int32) : ∃ r S' T', fX5_would x p S = some (r, S') ∧ fX6_would x p T = some (r, T') ∧ Rel S' T' := by
  have hn := h.1.1
  unfold fX5_would fX6_would
  rw [x_holds h, m_isPar h.1, if_bid, if_bid, x_isThere h, m_isThere, ob1_s, if_bi, if_bi]
  by_cases hx : 0 ≤ x ∧ x < nI (nT T)
  · rw [if_pos hx, if_pos hx]
    obtain ⟨k, hk, rfl⟩ := (par_in T x hn.2).mp hx
    cases hp : isTh T p
    · exact ⟨_, _, _, rfl, rfl, h⟩
    · rw [if_pos rfl, if_pos rfl]
      obtain ⟨q, hq, rfl⟩ : ∃ q, q < 8 ∧ p = nI q := (in8_iff p).mp (Classical.byContradiction (fun z => by rw [isTh_out T z] at hp; cases hp))
      obtain ⟨B, h1, hR, hc, hw, -⟩ := x_waysAll h
      obtain ⟨C, h2, hf, hC⟩ := m_findWays h.1
      have hcor : cor T C := frM_cor hf (fun a e => by omega)
      rw [x_fill h, ob1_s, h1, ob2_s, h2, ob2_s, x_through hn.2 hc hw hk hq, ob1_s, m_speaks C (by omega) ((cor_wf hcor h.1).2.2.2.2.2 k (by rw [cor_n hcor]; exact hk)).1, ob1_s, if_bi, m_waysWith h.1 hC hk hq, ob1_s, cor_sp hcor]
      have hRR := Rel_cor hR (corX_rfl _) hcor
      cases spT T k
      · exact ⟨_, _, _, rfl, rfl, hRR⟩
      · exact ⟨_, _, _, rfl, rfl, hRR⟩
  · rw [if_neg hx, if_neg hx]; exact ⟨_, _, _, rfl, rfl, h⟩
/-- narrowing on both sides -/
theorem nar_R {T : MS} (h : wfM T) : ∃ R, R ≤ 128 ∧ chgB (nT T) (lkT T) (nit (nT T) (lkT T) (oT T) R) = false ∧ ∀ r, r < R → chgB (nT T) (lkT T) (nit (nT T) (lkT T) (oT T) r) = true := nit_end h.1.2 (own_S8 h)
theorem x_narAll {S : XS} {T : MS} (h : Rel S T) {R : Nat} (hR : R ≤ 128) (hend : chgB (nT T) (lkT T) (nit (nT T) (lkT T) (oT T) R) = false) (hgo : ∀ r, r < R → chgB (nT T) (lkT T) (nit (nT T) (lkT T) (oT T) r) = true) : ∃ B, fX0_narrow (filX S T (nT T)) = some B ∧ Rel B T ∧ frX pX (filX S T (nT T)) B ∧ xi B 5 = nI (nT T) ∧ ∀ k, k < 16 → xa B 11 k = ex0 (nT T) (nit (nT T) (lkT T) (oT T) (R + 1)) k := by
  obtain ⟨B, h1, h2, -, h4⟩ := x_narrow h.1.1.2 (fill_ch S T) (lkT_ok T).2.1 (own_S8 h.1) hR hend hgo
  exact ⟨B, h1, Rel_cor h (corX_trans (filX_cor S T _) (frX_cor h2 (fun a e => by rcases e with e | e <;> omega))) (cor_rfl T), h2, (chX_fr h2 (fun a e => by rcases e with e | e <;> omega) (fill_ch S T)).1, h4⟩
theorem sim_set {S : XS} {T : MS} (h : Rel S T) (x w : Int32) : ∃ r S' T', fX5_set x w S = some (r, S') ∧ fX6_set x w T = some (r, T') ∧ Rel S' T' := by
  have hn := h.1.1
  unfold fX5_set fX6_set
  rw [x_holds h, m_isPar h.1, if_bid, if_bid, within_eq, if_bid]
  by_cases hx : 0 ≤ x ∧ x < nI (nT T)
  · rw [if_pos hx, if_pos hx]
    obtain ⟨k, hk, rfl⟩ := (par_in T x hn.2).mp hx
    by_cases hw : 0 ≤ w ∧ w ≤ 2
    · have hw0 : ¬ w < 0 := fun z => by
        have a := Int32.lt_iff_toInt_lt.mp z
        have b := Int32.le_iff_toInt_le.mp hw.1
        omega
      rw [if_neg hw0, if_pos hw.2, if_pos hw, x_par h hk, ob1_s, x_speaks h hk, ob1_s, m_speaks T (by omega) (h.1.2.2.2.2.2 k hk).1, ob1_s, if_bi, if_bi]
      cases hs : spT T k
      · exact ⟨_, _, _, rfl, rfl, h⟩
      · rw [if_pos rfl, if_pos rfl]
        obtain ⟨R, hR, hend, hgo⟩ := nar_R h.1
        obtain ⟨N, hN, hfN, -, ho, hnar⟩ := m_findNarrowed h.1 hR hend hgo
        have hcN : cor T N := frM_cor hfN (fun a e => by rcases e with e | e | e <;> omega)
        obtain ⟨C, hC, hfC, hwC, hsC⟩ := m_findSure (cor_wf hcN h.1)
        rw [cor_n hcN, cor_sp hcN, cor_o hcN, cor_lk hcN] at hsC
        have hcC : cor N C := frM_cor hfC (fun a e => by rcases e with e | e <;> omega)
        have hcT := cor_trans hcN hcC
        have h9 : ma C 9 k = oT T k := by
          have := hwC.1.2 k (by rw [cor_n hcN]; exact hk)
          rw [this, cor_o hcN]
        have h10 : ma C 10 k = nit (nT T) (lkT T) (oT T) (R + 1) k := by
          rw [show ma C 10 = ma N 10 from hfC.2 10 (by rintro (e | e) <;> omega)]
          exact hnar k hk
        rw [hN, ob1_s, hC, ob1_s, ck_in (inb_nI (by omega) (by decide)), ck_in (inb_nI (by omega) (by decide)), ck_in (inb_nI (by omega) (by decide)), cl_nI (by omega), h9, h10, hsC k hk, x_fill h, ob1_s]
        by_cases w0 : w = 0
        · rw [if_pos w0, if_pos w0, x_own hn.2 (fill_ch S T), ob1_s, rd_in _ hn.2 hk]
          exact ⟨_, _, _, rfl, rfl, Rel_cor h (filX_cor S T _) hcT⟩
        · rw [if_neg w0, if_neg w0]
          by_cases w1 : w = 1
          · obtain ⟨B, h1, hRB, -, h5, h11⟩ := x_narAll h hR hend hgo
            rw [if_pos w1, if_pos w1, h1, ob1_s, x_nar h5 hn.2, ob1_s, rd_in _ hn.2 hk, h11 k (by omega)]
            unfold ex0
            rw [if_pos hk]
            exact ⟨_, _, _, rfl, rfl, Rel_cor hRB (corX_rfl _) hcT⟩
          · obtain ⟨B, h1, hRB, hcB, -, h15⟩ := x_waysAll h
            rw [if_neg w1, if_neg w1, h1, ob2_s, x_sur hcB.1 hn.2, ob1_s, rd_in _ hn.2 hk, h15 k (by omega)]
            unfold ex0
            rw [if_pos hk]
            exact ⟨_, _, _, rfl, rfl, Rel_cor hRB (corX_rfl _) hcT⟩
    · rw [if_neg hw]
      by_cases h0 : w < 0
      · rw [if_pos h0]; exact ⟨_, _, _, rfl, rfl, h⟩
      · rw [if_neg h0, if_neg (fun z => hw ⟨by
          apply Int32.le_iff_toInt_le.mpr
          have : ¬ w.toInt < (0 : Int32).toInt := fun z => h0 (Int32.lt_iff_toInt_lt.mpr z)
          omega, z⟩)]
        exact ⟨_, _, _, rfl, rfl, h⟩
  · rw [if_neg hx, if_neg hx]; exact ⟨_, _, _, rfl, rfl, h⟩
