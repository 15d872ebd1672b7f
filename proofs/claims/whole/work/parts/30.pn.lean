/-! written, away -/
theorem fr16 {E E' : MS} (h : frM (fun a => a = 16) E E') : cor E E' := frM_cor h (fun a e => by omega)
theorem sim_written {S : XS} {T : MS} (h : Rel S T) (x i : Int32) : ∃ r S' T', fX5_written x i S = some (r, S') ∧ fX6_written x i T = some (r, T') ∧ Rel S' T' := by
  have hn := h.1.1
  unfold fX5_written fX6_written
  rw [x_holds h, m_isPar h.1, if_bid, if_bid, within_eq, if_bid]
  by_cases hx : 0 ≤ x ∧ x < nI (nT T)
  · rw [if_pos hx, if_pos hx]
    obtain ⟨k, hk, rfl⟩ := (par_in T x hn.2).mp hx
    by_cases hi : -1 ≤ i ∧ i ≤ 14
    · have hi1 : ¬ i < -1 := fun z => by
        have a := Int32.lt_iff_toInt_lt.mp z
        have b := Int32.le_iff_toInt_le.mp hi.1
        omega
      -- the place: -1, or a number up to 14
      have hpl : i = -1 ∨ ∃ a, a ≤ 14 ∧ i = nI a := by
        by_cases h0 : i < 0
        · left
          apply Int32.toInt_inj.mp
          have a := Int32.lt_iff_toInt_lt.mp h0
          have b := Int32.le_iff_toInt_le.mp hi.1
          have c : (-1 : Int32).toInt = -1 := rfl
          have d : (0 : Int32).toInt = 0 := rfl
          omega
        · right
          obtain ⟨j, hj, e⟩ := nI_of2 (x := i) (M := 14) (n := 14) rfl h0 hi.2
          exact ⟨j, hj, e⟩
      rw [if_neg hi1, if_pos hi.2, if_pos hi]
      obtain ⟨R, hR, hend, hgo⟩ := nar_R h.1
      obtain ⟨N, hN, hfN, -, -, hnar⟩ := m_findNarrowed h.1 hR hend hgo
      have hcN : cor T N := frM_cor hfN (fun a e => by rcases e with e | e | e <;> omega)
      have hwN := cor_wf hcN h.1
      have hrN := (hwN.2.2.2.2.2 k (by rw [cor_n hcN]; exact hk)).1
      -- one sign alone
      have one : ∀ (c : Int32) (A : MS), cor T A → ∃ T', (ob2 (bX6_writes_41 c A) (fun r10 S12 => (if 0 ≤ i then (if r10 ≤ i then (some ((-9), S12)) else (ck i 16 (some ((ma S12 16 i.toNatClampNeg), S12)))) else (some (r10, S12))))) = some (fX5_signOfOne c i, T') ∧ cor T T' := by
        intro c A hA
        unfold bX6_writes_41 fX5_signOfOne
        rw [ck_in (show inb (0 : Int32) 16 from inb_nI (j := 0) (by omega) (by decide)), bnd_s, ob2_s]
        refine ⟨maW A 16 (0 : Int32).toNatClampNeg c, ?_, cor_trans hA (cor_ma A (by omega) _ _)⟩
        rcases hpl with rfl | ⟨a, ha, rfl⟩
        · rw [if_neg (by decide), if_pos rfl]
        · rw [if_pos (nI_pos' (by omega)), if_neg (show ¬ nI a = -1 from fun z => by
            have h0 : ¬ nI a < 0 := nI_pos (by omega)
            rw [z] at h0
            exact absurd (by decide) h0)]
          by_cases a0 : a = 0
          · subst a0
            rw [if_neg (by decide), if_pos (show nI 0 = 0 from rfl), ck_in (inb_nI (by omega) (by decide)), ma_maW]
            show some (upd (ma A 16) 0 c 0, _) = _
            rw [upd_s]
          · rw [if_pos (show (1 : Int32) ≤ nI a from nI_le (a := 1) (by omega) (by omega)), if_neg (show ¬ nI a = 0 from fun z => a0 ((nI_eq (b := 0) (by omega) (by omega)).mp z))]
      unfold fX6_writes
      rw [hN, ob1_s, m_speaks N (by omega) hrN, ob1_s, if_bi, cor_sp hcN, x_par h hk, ob1_s, x_speaks h hk, ob1_s, if_bi, ck_in (inb_nI (by omega) (by decide)), cl_nI (by omega), hnar k hk]
      have e21 : bX6_writes_21 (nI k) N = if spT T k = true then bX6_writes_41 33 N else bX6_writes_41 46 N := by
        unfold bX6_writes_21
        rw [m_speaks N (by omega) hrN, ob1_s, if_bi, cor_sp hcN]
      rw [e21]
      cases hs : spT T k
      · rw [if_neg (show ¬ false = true by simp), if_neg (show ¬ false = true by simp), if_neg (show ¬ false = true by simp)]
        obtain ⟨T', h1, h2⟩ := one 46 N hcN
        rw [h1]
        exact ⟨_, _, _, rfl, rfl, Rel_cor h (corX_rfl _) h2⟩
      · rw [if_pos rfl, if_pos rfl, if_pos rfl]
        obtain ⟨B, hB, hRB, -, h5, h11⟩ := x_narAll h hR hend hgo
        rw [x_fill h, ob1_s, hB, ob1_s, x_nar h5 hn.2, ob1_s, rd_in _ hn.2 hk, h11 k (by omega)]
        have e0 : ex0 (nT T) (nit (nT T) (lkT T) (oT T) (R + 1)) k = nit (nT T) (lkT T) (oT T) (R + 1) k := by unfold ex0; rw [if_pos hk]
        rw [e0]
        have hS8 : S8 (nit (nT T) (lkT T) (oT T) (R + 1) k) := nit_S8 (own_S8 h.1) (R + 1) k hk
        have hN10 := hnar k hk
        generalize nit (nT T) (lkT T) (oT T) (R + 1) k = s at hS8 hN10
        by_cases s0 : s = 0
        · rw [if_pos s0, if_pos s0]
          obtain ⟨T', h1, h2⟩ := one 33 N hcN
          rw [h1]
          exact ⟨_, _, _, rfl, rfl, Rel_cor hRB (corX_rfl _) h2⟩
        · rw [if_neg s0, if_neg s0]
          obtain ⟨E, hE, hfE, hP, hM⟩ := m_text (T := T) (show k < 16 by omega) s hN10
          have hz := sz_le s
          have hz1 : 1 ≤ sz s := by
            rcases Nat.eq_zero_or_pos (sz s) with e | e
            · exfalso
              apply s0
              refine (tb_eq0 hS8).mpr (fun p hp => ?_)
              cases hq : tb s p
              · rfl
              · have := cntN_step (fun p => tb s p) hp hq
                unfold sz at e; omega
            · exact e
          rw [hE, ob2_s]
          unfold fX5_signOfSet
          have el : 2 * nI (sz s) - 1 = nI (2 * sz s - 1) := by rw [show (2 : Int32) = nI 2 from rfl, pk_mul, show (1 : Int32) = nI 1 from rfl, pk_sub (by omega)]
          rw [x_bc hS8, el, bnd_s]
          have hRR := Rel_cor hRB (corX_rfl _) (cor_trans hcN (fr16 hfE))
          rcases hpl with rfl | ⟨a, ha, rfl⟩
          · rw [if_pos rfl, if_neg (show ¬ (0 : Int32) ≤ -1 by decide), ob1_s]
            exact ⟨_, _, _, rfl, rfl, hRR⟩
          · rw [if_pos (nI_pos' (by omega)), if_neg (show ¬ nI a = -1 from fun z => by
              have h0 : ¬ nI a < 0 := nI_pos (by omega)
              rw [z] at h0
              exact absurd (by decide) h0)]
            by_cases hal : a < 2 * sz s - 1
            · rw [if_neg (nI_ge hal (by omega)), if_pos (nI_lt hal (by omega)), ck_in (inb_nI (by omega) (by decide)), cl_nI (by omega), show (2 : Int32) = nI 2 from rfl, pk_rem (by omega) (by omega) (by omega), pk_div (by omega) (by omega) (by omega)]
              by_cases hodd : a % 2 = 1
              · rw [if_pos (show nI (a % 2) = 1 by rw [hodd]; rfl), ob1_s]
                have := hM ((a + 1) / 2) (by omega) (by omega)
                rw [show 2 * ((a + 1) / 2) - 1 = a from by omega] at this
                rw [this]
                exact ⟨_, _, _, rfl, rfl, hRR⟩
              · rw [if_neg (show ¬ nI (a % 2) = 1 from fun z => hodd ((nI_eq (b := 1) (by omega) (by omega)).mp z))]
                obtain ⟨p, hp, hbp, hcp, hmem⟩ := x_member (s := s) (m := a / 2) (by omega)
                have := hP p hp hbp
                rw [hcp, show 2 * (a / 2) = a from by omega] at this
                rw [hmem, ob1_s, ob1_s, this]
                exact ⟨_, _, _, rfl, rfl, hRR⟩
            · rw [if_pos (nI_le (by omega) (by omega)), if_neg (nI_nlt (by omega) (by omega)), ob1_s]
              exact ⟨_, _, _, rfl, rfl, hRR⟩
    · rw [if_neg hi]
      by_cases h0 : i < -1
      · rw [if_pos h0]; exact ⟨_, _, _, rfl, rfl, h⟩
      · rw [if_neg h0, if_neg (fun z => hi ⟨by
          apply Int32.le_iff_toInt_le.mpr
          have : ¬ i.toInt < (-1 : Int32).toInt := fun z => h0 (Int32.lt_iff_toInt_lt.mpr z)
          omega, z⟩)]
        exact ⟨_, _, _, rfl, rfl, h⟩
  · rw [if_neg hx, if_neg hx]; exact ⟨_, _, _, rfl, rfl, h⟩
/-- named anywhere -/
theorem tb_meT {T : MS} {k : Nat} (h : rowOk T k) {p : Nat} (hp : p < 8) : tb (meT T k) p = true ↔ ∃ i, i < cT T k ∧ whT T k i = nI p := by
  unfold meT
  rw [tb_orN]
  constructor
  · rintro ⟨i, hi, c⟩
    exact ⟨i, hi, ((tb_bitw (wh_ok h hi) p).mp c).1⟩
  · rintro ⟨i, hi, c⟩
    exact ⟨i, hi, (tb_bitw (wh_ok h hi) p).mpr ⟨c, hp⟩⟩
theorem m_named {T : MS} (h : wfM T) {p : Nat} (hp : p < 8) : fX6_isNamed (nI p) T = some (anyN (fun k => tb (meT T k) p) (nT T)) := by
  have hn := h.1
  have inner : ∀ k, k < nT T → ∀ K : Int32 × Int32 × MS → Option Bool, lp (fun k q => bX6_isNamed_12 K k q.1 q.2.1 q.2.2.1 q.2.2.2) FU (nI p, nI k, 0, T) = if tb (meT T k) p = true then some true else K (nI p, nI (k + 1), T) := by
    intro k hk K
    have hr := (h.2.2.2.2.2 k hk).1
    have hc := hr.1.2
    have step : ∀ i, i < cT T k → ∀ k0 : Int32 × Int32 × Int32 × MS → Option Bool, bX6_isNamed_12 K k0 (nI p) (nI k) (nI i) T = if whT T k i = nI p then some true else k0 (nI p, nI k, nI (i + 1), T) := by
      intro i hi k0
      unfold bX6_isNamed_12
      rw [ck_in (inb_nI (by omega) (by decide)), cl_nI (by omega), hr.1.1, if_neg (nI_ge hi (by omega)), x12, ck_in (inb_nI (by omega) (by decide)), cl_nI (by omega), nI_1]
      rfl
    by_cases hex : ∃ i, i < cT T k ∧ whT T k i = nI p
    · rw [if_pos ((tb_meT hr hp).mpr hex)]
      obtain ⟨i, ⟨hi, hpi⟩, hmin⟩ := pk_least _ hex
      refine lp_go _ (fun j => (nI p, nI k, nI j, T)) _ i (by omega) ?_ ?_
      · intro j hj k0
        dsimp only
        rw [step j (by omega), if_neg (fun z => hmin j hj ⟨by omega, z⟩)]
      · intro k0
        dsimp only
        rw [step i hi, if_pos hpi]
    · rw [if_neg (fun z => hex ((tb_meT hr hp).mp z))]
      refine lp_go _ (fun j => (nI p, nI k, nI j, T)) _ (cT T k) (by omega) ?_ ?_
      · intro j hj k0
        dsimp only
        rw [step j hj, if_neg (fun z => hex ⟨j, hj, z⟩)]
      · intro k0
        dsimp only
        unfold bX6_isNamed_12
        rw [ck_in (inb_nI (by omega) (by decide)), cl_nI (by omega), hr.1.1, if_pos (nI_le (Nat.le_refl _) (by omega)), nI_1]
  have step : ∀ j, j < nT T → ∀ k0 : Int32 × Int32 × MS → Option Bool, bX6_isNamed_2 k0 (nI p) (nI j) T = if tb (meT T j) p = true then some true else k0 (nI p, nI (j + 1), T) := by
    intro j hj k0
    unfold bX6_isNamed_2
    rw [hn.1, if_neg (nI_ge hj (by omega))]
    exact inner j hj k0
  unfold fX6_isNamed
  by_cases hex : ∃ k, k < nT T ∧ tb (meT T k) p = true
  · rw [(anyN_iff _ _).mpr hex]
    obtain ⟨i, ⟨hi, hpi⟩, hmin⟩ := pk_least _ hex
    refine lp_go _ (fun j => (nI p, nI j, T)) _ i (by omega) ?_ ?_
    · intro j hj k0
      dsimp only
      rw [step j (by omega), if_neg (fun z => hmin j hj ⟨by omega, z⟩)]
    · intro k0
      dsimp only
      rw [step i hi, if_pos hpi]
  · have : anyN (fun k => tb (meT T k) p) (nT T) = false := by
      cases hq : anyN (fun k => tb (meT T k) p) (nT T)
      · rfl
      · exact absurd ((anyN_iff _ _).mp hq) hex
    rw [this]
    refine lp_go _ (fun j => (nI p, nI j, T)) _ (nT T) (by omega) ?_ ?_
    · intro j hj k0
      dsimp only
      rw [step j hj, if_neg (fun z => hex ⟨j, hj, z⟩)]
    · intro k0
      dsimp only
      unfold bX6_isNamed_2
      rw [hn.1, if_pos (nI_le (Nat.le_refl _) (by omega))]
theorem x_named {S : XS} {T : MS} (h : Rel S T) {p : Nat} (hp : p < 8) : fX3_namesAnywhere (nI p) S = some (anyN (fun k => tb (meT T k) p) (nT T)) := by
  have hn := h.1.1
  have step : ∀ j, j < nT T → ∀ k0 : Int32 × Int32 × XS → Option Bool, bX3_namesAnywhere_2 k0 (nI p) (nI j) S = if tb (meT T j) p = true then some true else k0 (nI p, nI (j + 1), S) := by
    intro j hj k0
    have hm : fX1_mentions j (nI p) S = some (tb (meT T j) p) := by
      unfold fX1_mentions
      rw [if_pos (by omega), (h.2.2.2.2.2.2.2.2.1 j hj).2.2.2.2.2.1, x_bitOf hp]
      cases hb : tb (meT T j) p
      · rw [if_pos ((and_bit (by omega)).mpr hb)]
      · rw [if_neg (fun z => by rw [(and_bit (by omega)).mp z] at hb; cases hb)]
    unfold bX3_namesAnywhere_2
    rw [h.2.2.2.2.2.2.2.1, hn.1, if_neg (nI_ge hj (by omega)), x_par h hj, ob1_s, hm, ob1_s, if_bi, nI_1]
  unfold fX3_namesAnywhere
  by_cases hex : ∃ k, k < nT T ∧ tb (meT T k) p = true
  · rw [(anyN_iff _ _).mpr hex]
    obtain ⟨i, ⟨hi, hpi⟩, hmin⟩ := pk_least _ hex
    refine lp_go _ (fun j => (nI p, nI j, S)) _ i (by omega) ?_ ?_
    · intro j hj k0
      dsimp only
      rw [step j (by omega), if_neg (fun z => hmin j hj ⟨by omega, z⟩)]
    · intro k0
      dsimp only
      rw [step i hi, if_pos hpi]
  · have : anyN (fun k => tb (meT T k) p) (nT T) = false := by
      cases hq : anyN (fun k => tb (meT T k) p) (nT T)
      · rfl
      · exact absurd ((anyN_iff _ _).mp hq) hex
    rw [this]
    refine lp_go _ (fun j => (nI p, nI j, S)) _ (nT T) (by omega) ?_ ?_
    · intro j hj k0
      dsimp only
      rw [step j hj, if_neg (fun z => hex ⟨j, hj, z⟩)]
    · intro k0
      dsimp only
      unfold bX3_namesAnywhere_2
      rw [h.2.2.2.2.2.2.2.1, hn.1, if_pos (nI_le (Nat.le_refl _) (by omega))]
theorem sim_away {S : XS} {T : MS} (h : Rel S T) (x : Int32) : ∃ r S' T', fX5_away x S = some (r, S') ∧ fX6_away x T = some (r, T') ∧ Rel S' T' := by
  have hn := h.1.1
  unfold fX5_away fX6_away
  rw [x_isThere h, m_isThere, ob1_s, if_bi, if_bi]
  cases hp : isTh T x
  · exact ⟨_, _, _, rfl, rfl, h⟩
  · rw [if_pos rfl, if_pos rfl]
    obtain ⟨p, hp8, rfl⟩ : ∃ q, q < 8 ∧ x = nI q := (in8_iff x).mp (Classical.byContradiction (fun z => by rw [isTh_out T z] at hp; cases hp))
    rw [x_named h hp8, ob1_s, m_named h.1 hp8, ob1_s, if_bi, if_bi]
    cases hnm : anyN (fun k => tb (meT T k) p) (nT T)
    · rw [if_neg (show ¬ false = true by simp), if_neg (show ¬ false = true by simp)]
      let v : Int32 := ((1 : Int32) <<< (nI p &&& 31)) ^^^ (-1)
      -- the class
      have hcnt : fX0_ownSetsWith (nI p) (filX S T (nT T)) = some (nI (cntN (fun k => tb (oT T k) p) (nT T))) := by
        have hch := fill_ch S T
        unfold fX0_ownSetsWith
        refine lp_go _ (fun j => (nI p, nI (cntN (fun k => tb (oT T k) p) j), nI j, filX S T (nT T))) _ (nT T) (by omega) ?_ ?_
        · intro j hj k0
          dsimp only
          unfold bX0_ownSetsWith_4
          rw [hch.1, if_neg (nI_ge hj (by omega)), x_own hn.2 hch, ob1_s, rd_in _ hn.2 hj, x_bitOf hp8, nI_1, nI_1]
          cases hb : tb (oT T j) p
          · rw [if_pos ((and_bit (by omega)).mpr hb), cntN_f (P := fun k => tb (oT T k) p) hb]
          · rw [if_neg (fun z => by rw [(and_bit (by omega)).mp z] at hb; cases hb), cntN_t (P := fun k => tb (oT T k) p) hb]
        · intro k0
          dsimp only
          unfold bX0_ownSetsWith_4
          rw [hch.1, if_pos (nI_le (Nat.le_refl _) (by omega))]
      have hfil := filX_cor S T (nT T)
      have hRF := Rel_cor h hfil (cor_rfl T)
      have hta : fX2_takeAway (nI p) (filX S T (nT T)) = some (xiW (filX S T (nT T)) 2 (thT T &&& v)) := by
        unfold fX2_takeAway
        rw [bnd_s, hRF.2.2.2.1, x_bitOf hp8]
      have e0 : xi (xiW (filX S T (nT T)) 2 (thT T &&& v)) 0 = mi T 0 := (xi_xiW' _ _ (by decide)).trans hRF.2.1
      rw [x_fill h, ob1_s, hcnt, ob1_s, hta, ob1_s, e0, bnd_s, x_bitOf hp8]
      -- the reference
      have hm : lp (fun k q => bX6_away_25 k q.1 q.2.1 q.2.2.1 q.2.2.2) FU (nI p, 0, 0, T) = some (nI (cntN (fun k => tb (oT T k) p) (nT T)), miW (maW T 1 p (-9)) 0 (mi T 0 &&& v)) := by
        refine lp_go _ (fun j => (nI p, nI (cntN (fun k => tb (oT T k) p) j), nI j, T)) _ (nT T) (by omega) ?_ ?_
        · intro j hj k0
          dsimp only
          unfold bX6_away_25
          have hr := (h.1.2.2.2.2.2 j hj).1
          rw [hn.1, if_neg (nI_ge hj (by omega)), m_speaks T (by omega) hr, ob1_s, if_bi, m_ownOf T (by omega) hr, ob1_s, has_nI _ (by omega), if_bi]
          simp only [bnd_s]
          rw [Int32.add_zero, nI_1, nI_1]
          have ho : oT T j = if spT T j = true then owT T j else 0 := rfl
          cases hs : spT T j
          · rw [if_neg (show ¬ false = true by simp), cntN_f (P := fun k => tb (oT T k) p) (by show tb (oT T j) p = false; rw [ho, hs, if_neg (show ¬ false = true by simp), tb_0])]
          · rw [if_pos rfl]
            cases hb : tb (owT T j) p
            · rw [if_neg (by simp), cntN_f (P := fun k => tb (oT T k) p) (by show tb (oT T j) p = false; rw [ho, hs, if_pos rfl]; exact hb)]
            · rw [if_pos rfl, cntN_t (P := fun k => tb (oT T k) p) (by show tb (oT T j) p = true; rw [ho, hs, if_pos rfl]; exact hb)]
        · intro k0
          dsimp only
          unfold bX6_away_25
          rw [hn.1, if_pos (nI_le (Nat.le_refl _) (by omega)), ck_in (inb_nI hp8 (by decide)), cl_nI (by omega), bnd_s, bnd_s]
          rfl
      rw [hm]
      refine ⟨_, _, _, rfl, rfl, ?_⟩
      obtain ⟨⟨-, ht, hst, hh, hru, hro⟩, x0, x1, x2, x3, x4, x5, x6, x7, x8⟩ := hRF
      have a1 : ma (miW (maW T 1 p (-9)) 0 (mi T 0 &&& v)) 1 = upd (ma T 1) p (-9) := ma_maW T 1 p (-9)
      have ao : ∀ a, a ≠ 1 → ma (miW (maW T 1 p (-9)) 0 (mi T 0 &&& v)) a = ma T a := fun a ha => ma_maW' T p (-9) ha
      have hrow : ∀ k, rowEq T (miW (maW T 1 p (-9)) 0 (mi T 0 &&& v)) k := fun k => rowEq_of k (ao 3 (by decide)) (ao 4 (by decide)) (ao 5 (by decide))
      have hth : thT (miW (maW T 1 p (-9)) 0 (mi T 0 &&& v)) = thT T &&& v := by
        refine S8.ext' (S8_thT _) ((S8_thT T).and _) (fun q hq => ?_)
        rw [tb_thT, tb_and, Bool.and_eq_true, tb_thT, tb_not (by omega), tb_sh (by omega), a1]
        by_cases e : q = p
        · subst e; rw [upd_s]; simp
        · rw [upd_n _ _ e]; simp [e]
      refine ⟨⟨hn, ht, ?_, hh.and _, hru, ?_⟩, rfl, ?_, ?_, ?_, ?_, ?_, ?_, ?_, x8⟩
      · intro q hq
        rw [a1]
        by_cases e : q = p
        · subst e; rw [upd_s]; exact Or.inl rfl
        · rw [upd_n _ _ e]; exact hst q hq
      · intro k hk
        exact ⟨row_ok (hro k hk).1 (hrow k), more_row (by rw [ao 6 (by decide)]) (by rw [ao 7 (by decide)]) (by rw [ao 8 (by decide)]) (hro k hk).2⟩
      · exact x1
      · rw [hth]; rfl
      · intro q hq hne
        rw [a1] at hne ⊢
        by_cases e : q = p
        · subst e; rw [upd_s] at hne; exact absurd rfl hne
        · rw [upd_n _ _ e] at hne ⊢; exact x3 q hq hne
      · exact x4
      · intro j hj; rw [ao 2 (by decide)]; exact x5 j hj
      · exact x6
      · intro k hk
        exact par_row (hro k hk).1 (hrow k) (by rw [ao 6 (by decide)]) (by rw [ao 7 (by decide)]) (by rw [ao 8 (by decide)]) (fun _ => rfl) (x7 k hk)
    · exact ⟨_, _, _, rfl, rfl, h⟩
