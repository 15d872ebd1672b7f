/-! rows that stay; the simple calls -/
theorem cntN_cong {P Q : Nat → Bool} (j : Nat) (h : ∀ i, i < j → P i = Q i) : cntN P j = cntN Q j := by
  induction j with
  | zero => rfl
  | succ j ih => simp only [cntN]; rw [ih (fun i hi => h i (by omega)), h j (by omega)]
theorem orN_cong {f g : Nat → Int32} (j : Nat) (h : ∀ i, i < j → f i = g i) : orN f j = orN g j := by
  induction j with
  | zero => rfl
  | succ j ih => simp only [orN]; rw [ih (fun i hi => h i (by omega)), h j (by omega)]
theorem andN_cong {f g : Nat → Int32} (j : Nat) (h : ∀ i, i < j → f i = g i) : andN f j = andN g j := by
  induction j with
  | zero => rfl
  | succ j ih => simp only [andN]; rw [ih (fun i hi => h i (by omega)), h j (by omega)]
theorem anyN_cong {P Q : Nat → Bool} (j : Nat) (h : ∀ i, i < j → P i = Q i) : anyN P j = anyN Q j := by
  induction j with
  | zero => rfl
  | succ j ih => simp only [anyN]; rw [ih (fun i hi => h i (by omega)), h j (by omega)]
def rowEq (T T' : MS) (k : Nat) : Prop := ma T' 3 k = ma T 3 k ∧ ∀ i, i < 12 → itT T' k i = itT T k i ∧ whT T' k i = whT T k i
theorem rowEq_rfl (T : MS) (k : Nat) : rowEq T T k := ⟨rfl, fun _ _ => ⟨rfl, rfl⟩⟩
theorem rowEq_of {T T' : MS} (k : Nat) (h3 : ma T' 3 = ma T 3) (h4 : ma T' 4 = ma T 4) (h5 : ma T' 5 = ma T 5) : rowEq T T' k := ⟨by rw [h3], fun i _ => ⟨by unfold itT; rw [h4], by unfold whT; rw [h5]⟩⟩
theorem row_c {T T' : MS} {k : Nat} (e : rowEq T T' k) : cT T' k = cT T k := by unfold cT; rw [e.1]
theorem row_ok {T T' : MS} {k : Nat} (h : rowOk T k) (e : rowEq T T' k) : rowOk T' k := by
  unfold rowOk
  rw [row_c e, e.1]
  refine ⟨h.1, fun i hi => ?_⟩
  have := h.1.2
  rw [(e.2 i (by omega)).1, (e.2 i (by omega)).2]
  exact h.2 i hi
theorem row_kd {T T' : MS} {k : Nat} (h : rowOk T k) (e : rowEq T T' k) (x : Int32) : kdT T' k x = kdT T k x := by
  have hc := h.1.2
  unfold kdT
  rw [row_c e]
  by_cases q : inb x (cT T k)
  · rw [if_pos q, if_pos q]
    obtain ⟨j, hj, rfl⟩ := inb_ex (by omega) q
    rw [cl_nI (by omega)]
    exact (e.2 j (by omega)).1
  · rw [if_neg q, if_neg q]
theorem row_who {T T' : MS} {k : Nat} (h : rowOk T k) (e : rowEq T T' k) (x : Int32) : whoT T' k x = whoT T k x := by
  unfold whoT
  rw [row_kd h e, row_kd h e]
theorem row_cns {T T' : MS} {k : Nat} (h : rowOk T k) (e : rowEq T T' k) (x : Int32) : cnsT T' k x = cnsT T k x := by
  unfold cnsT fstT
  rw [row_kd h e, row_who h e, row_kd h e, row_kd h e]
theorem row_whoN {T T' : MS} {k : Nat} (h : rowOk T k) (e : rowEq T T' k) (i : Nat) : whoN T' k i = whoN T k i := by
  unfold whoN
  rw [row_who h e]
theorem whoN_lt {T : MS} {k : Nat} (h : rowOk T k) {i : Nat} (hc : cnsT T k (nI i) = true) : whoN T k i < cT T k := by
  have hw : whoT T k (nI i) ≠ -9 := by
    unfold cnsT at hc
    exact (of_decide_eq_true hc).2.1
  obtain ⟨j, hj, e, -⟩ := who_ok h hw
  unfold whoN
  have := h.1.2
  rw [e, cl_nI (by omega)]
  exact hj
theorem row_eqs {T T' : MS} {k : Nat} (h : rowOk T k) (e : rowEq T T' k) : quT T' k = quT T k ∧ meT T' k = meT T k ∧ stT T' k = stT T k ∧ vcT T' k = vcT T k ∧ vnT T' k = vnT T k ∧ heT T' k = heT T k ∧ shT T' k = shT T k ∧ doT T' k = doT T k := by
  have hc := h.1.2
  have hv : vcT T' k = vcT T k := by
    unfold vcT
    rw [row_c e]
    exact cntN_cong _ (fun i _ => row_cns h e _)
  refine ⟨?_, ?_, ?_, hv, ?_, ?_, ?_, ?_⟩
  · unfold quT
    rw [row_c e]
    exact cntN_cong _ (fun i hi => by rw [(e.2 i (by omega)).1])
  · unfold meT
    rw [row_c e]
    exact orN_cong _ (fun i hi => by rw [(e.2 i (by omega)).2])
  · unfold stT
    rw [row_c e]
    exact orN_cong _ (fun i hi => by rw [(e.2 i (by omega)).1, (e.2 i (by omega)).2])
  · unfold vnT
    rw [row_c e]
    refine andN_cong _ (fun i hi => ?_)
    rw [row_cns h e, row_whoN h e]
    cases hq : cnsT T k (nI i)
    · rw [if_neg (fun z => by simp at z), if_neg (fun z => by simp at z)]
    · have := whoN_lt h hq
      rw [(e.2 _ (show whoN T k i < 12 by omega)).1, (e.2 _ (show whoN T k i < 12 by omega)).2]
  · unfold heT
    rw [row_c e]
    refine anyN_cong _ (fun i hi => ?_)
    rw [row_cns h e, row_whoN h e]
    cases hq : cnsT T k (nI i)
    · rfl
    · have := whoN_lt h hq
      rw [(e.2 _ (show whoN T k i < 12 by omega)).1]
  · unfold shT
    rw [row_c e]
    refine anyN_cong _ (fun i hi => ?_)
    rw [row_cns h e, row_whoN h e]
    cases hq : cnsT T k (nI i)
    · rfl
    · have := whoN_lt h hq
      rw [(e.2 _ (show whoN T k i < 12 by omega)).1]
  · unfold doT
    rw [hv, row_kd h e, row_kd h e, (e.2 0 (by omega)).2]
theorem par_row {S S' : XS} {T T' : MS} {k : Nat} (h : rowOk T k) (e : rowEq T T' k) (h6 : ma T' 6 k = ma T 6 k) (h7 : ma T' 7 k = ma T 7 k) (h8 : ma T' 8 k = ma T 8 k) (hx : ∀ j, xp S' k j = xp S k j) (hp : parR S T k) : parR S' T' k := by
  obtain ⟨q1, q2, q3, q4, q5, q6, q7, q8⟩ := row_eqs h e
  unfold parR at hp ⊢
  rw [hx, hx, hx, hx, hx, hx, hx, hx, hx, hx, hx, hx, e.1, h6, h7, h8, q1, q2, q3, q4, q5, q6, q7, q8]
  exact hp
theorem more_row {T T' : MS} {k : Nat} (h6 : ma T' 6 k = ma T 6 k) (h7 : ma T' 7 k = ma T 7 k) (h8 : ma T' 8 k = ma T 8 k) (hp : rowMore T k) : rowMore T' k := by
  unfold rowMore at hp ⊢
  rw [h6, h7, h8]
  exact hp
/-- for all calls: both answer alike, and go on alike -/
theorem sim_person {S : XS} {T : MS} (h : Rel S T) (p s : Int32) : ∃ r S' T', fX5_person p s S = some (r, S') ∧ fX6_person p s T = some (r, T') ∧ Rel S' T' := by
  unfold fX5_person fX6_person
  rw [within_eq, within_eq, if_bid, if_bid, x_within, if_bid]
  by_cases hp : 0 ≤ p ∧ p ≤ 7
  · rw [if_pos hp, if_pos ((lt8 p).mpr hp)]
    obtain ⟨q, hq, rfl⟩ := (in8_iff p).mp hp
    by_cases hs : 0 ≤ s ∧ s ≤ 2
    · have hs0 : ¬ s < 0 := fun z => by
        have a := Int32.lt_iff_toInt_lt.mp z
        have b := Int32.le_iff_toInt_le.mp hs.1
        omega
      have hsv : s = 0 ∨ s = 1 ∨ s = 2 := by
        obtain ⟨j, hj, e⟩ := nI_of2 (x := s) (M := 2) (n := 2) rfl hs0 hs.2
        rcases (show j = 0 ∨ j = 1 ∨ j = 2 by omega) with rfl | rfl | rfl
        · exact Or.inl e
        · exact Or.inr (Or.inl e)
        · exact Or.inr (Or.inr e)
      have hs9 : s ≠ -9 := by rcases hsv with e | e | e <;> rw [e] <;> decide
      rw [if_pos hs, if_neg hs0, if_pos hs.2, ck_in (inb_nI hq (by decide)), bnd_s, ck_in (inb_nI hq (by decide)), bnd_s, cl_nI (by omega)]
      -- the class
      have hso : fX2_sortOf (nI q) S = some (ma T 1 q) := by
        unfold fX2_sortOf
        rw [x_within, if_bid, if_pos ((lt8 _).mpr hp), x_isThere h, if_bi, isTh_nI T hq, ck_in (inb_nI hq (by decide)), cl_nI (by omega)]
        cases ht : tb (thT T) q
        · rw [if_neg (by simp)]
          have : ma T 1 q = -9 := Classical.byContradiction (fun z => by rw [(tb_thT T q).mpr ⟨hq, z⟩] at ht; cases ht)
          rw [this]
        · rw [if_pos rfl, h.2.2.2.2.1 q hq ((tb_thT T q).mp ht).2]
      have hbr : fX2_bring (nI q) s S = some (xiW (xaW S 2 q s) 2 (thT T ||| ((1 : Int32) <<< (nI q &&& 31)))) := by
        unfold fX2_bring
        rw [x_within, if_bid, if_pos ((lt8 _).mpr hp), ck_in (inb_nI hq (by decide)), cl_nI (by omega), bnd_s, x_bitOf hq]
        have e1 : xi (xaW S 2 q s) 2 = thT T := h.2.2.2.1
        rw [e1, bnd_s]
      rw [hso, ob1_s, hbr, ob1_s]
      refine ⟨_, _, _, rfl, rfl, ?_⟩
      obtain ⟨⟨hn, ht, hst, hh, hru, hro⟩, x0, x1, x2, x3, x4, x5, x6, x7, x8⟩ := h
      have a1 : ma (maW T 1 q s) 1 = upd (ma T 1) q s := ma_maW T 1 q s
      have ao : ∀ a, a ≠ 1 → ma (maW T 1 q s) a = ma T a := fun a ha => ma_maW' T q s ha
      have hrow : ∀ k, rowEq T (maW T 1 q s) k := fun k => rowEq_of k (ao 3 (by decide)) (ao 4 (by decide)) (ao 5 (by decide))
      have hth : thT (maW T 1 q s) = thT T ||| ((1 : Int32) <<< (nI q &&& 31)) := by
        refine S8.ext' (S8_thT _) ((S8_thT T).or (fun p hp => by rw [tb_sh (by omega)]; simp; omega)) (fun p hp => ?_)
        rw [tb_thT, tb_or, Bool.or_eq_true, tb_thT, tb_sh (by omega), a1]
        by_cases e : p = q
        · subst e; rw [upd_s]; simp [hq, hs9]
        · rw [upd_n _ _ e]; simp [e]
      refine ⟨⟨hn, ht, ?_, hh, hru, ?_⟩, x0, x1, ?_, ?_, x4, ?_, x6, ?_, x8⟩
      · intro p hp
        rw [a1]
        by_cases e : p = q
        · subst e; rw [upd_s]; exact Or.inr hsv
        · rw [upd_n _ _ e]; exact hst p hp
      · intro k hk
        exact ⟨row_ok (hro k hk).1 (hrow k), more_row (by rw [ao 6 (by decide)]) (by rw [ao 7 (by decide)]) (by rw [ao 8 (by decide)]) (hro k hk).2⟩
      · rw [hth]; exact xi_xiW _ 2 _
      · intro p hp hne
        show xa (xaW S 2 q s) 2 p = _
        rw [xa_xaW, a1] at *
        by_cases e : p = q
        · subst e; rw [upd_s, upd_s]
        · rw [upd_n _ _ e] at hne ⊢; rw [upd_n _ _ e]; exact x3 p hp hne
      · intro j hj
        show xa (xaW S 2 q s) 4 j = _
        rw [xa_xaW' _ _ _ (by decide), ao 2 (by decide)]
        exact x5 j hj
      · intro k hk
        exact par_row (hro k hk).1 (hrow k) (by rw [ao 6 (by decide)]) (by rw [ao 7 (by decide)]) (by rw [ao 8 (by decide)]) (fun _ => rfl) (x7 k hk)
    · rw [if_neg hs]
      by_cases h0 : s < 0
      · rw [if_pos h0]; exact ⟨_, _, _, rfl, rfl, h⟩
      · rw [if_neg h0, if_neg (fun z => hs ⟨by
          apply Int32.le_iff_toInt_le.mpr
          have : ¬ s.toInt < (0 : Int32).toInt := fun z => h0 (Int32.lt_iff_toInt_lt.mpr z)
          omega, z⟩)]
        exact ⟨_, _, _, rfl, rfl, h⟩
  · rw [if_neg hp, if_neg (fun z => hp ((lt8 p).mp z))]
    exact ⟨_, _, _, rfl, rfl, h⟩
theorem mi_only {S : XS} {T : MS} (h : Rel S T) (v : Int32) (hv : S8 v) : Rel (xiW S 0 v) (miW T 0 v) := by
  obtain ⟨⟨hn, ht, hst, hh, hru, hro⟩, x0, x1, x2, x3, x4, x5, x6, x7, x8⟩ := h
  exact ⟨⟨hn, ht, hst, hv, hru, hro⟩, rfl, x1, x2, x3, x4, x5, x6, x7, x8⟩
theorem sim_here {S : XS} {T : MS} (h : Rel S T) (v : Int32) : ∃ r S' T', fX5_here v S = some (r, S') ∧ fX6_here v T = some (r, T') ∧ Rel S' T' := by
  unfold fX5_here fX6_here fX2_thereSet
  rw [h.2.2.2.1, within_eq, if_bid, m_there, ob1_s, h.2.1]
  by_cases hc : v &&& (thT T ^^^ (-1)) = 0
  · rw [if_pos hc]
    have h8 : S8 v := by
      intro p hp
      rcases Nat.lt_or_ge p 32 with q | q
      · have := congrArg (fun z => tb z p) hc
        simp only [tb_and, tb_not q, tb_0, S8_thT T p hp, Bool.not_false, Bool.and_true] at this
        exact this
      · exact tb_big q
    have hin : 0 ≤ v ∧ v ≤ 255 := by
      obtain ⟨w, hw, rfl⟩ := h8.nat
      exact ⟨nI_pos' (by omega), nI_le (b := 255) (by omega) (by omega)⟩
    rw [if_pos hin, if_pos hc, bnd_s, bnd_s, bnd_s, bnd_s]
    exact ⟨_, _, _, rfl, rfl, mi_only h v h8⟩
  · rw [if_neg hc]
    by_cases hin : 0 ≤ v ∧ v ≤ 255
    · rw [if_pos hin, if_neg hc]; exact ⟨_, _, _, rfl, rfl, h⟩
    · rw [if_neg hin]; exact ⟨_, _, _, rfl, rfl, h⟩
theorem rules_out : ∀ x : Int32, (x &&& (-16) = 0) ↔ (0 ≤ x ∧ x ≤ 15) := by
  intro x
  have hb : ∀ p, p < 32 → tb (-16) p = decide (4 ≤ p) := by decide +kernel
  constructor
  · intro hc
    have h4 : ∀ p, 4 ≤ p → tb x p = false := by
      intro p hp
      rcases Nat.lt_or_ge p 32 with q | q
      · have := congrArg (fun z => tb z p) hc
        simp only [tb_and, hb p q, tb_0, hp, decide_true, Bool.and_true] at this
        exact this
      · exact tb_big q
    have hlt : x.toBitVec.toNat < 2 ^ 4 := Nat.lt_pow_two_of_testBit _ (fun i hi => by
      have := h4 i hi
      simpa [tb, BitVec.testBit_toNat] using this)
    have e : x = nI x.toBitVec.toNat := by
      apply Int32.toBitVec_inj.mp
      apply BitVec.eq_of_toNat_eq
      rw [pk_tn (x.toBitVec.isLt)]
    rw [e]
    exact ⟨nI_pos' (by omega), nI_le (b := 15) (by omega) (by omega)⟩
  · rintro ⟨h1, h2⟩
    obtain ⟨j, hj, e⟩ := nI_of2 (x := x) (M := 15) (n := 15) rfl (fun z => by
      have a := Int32.lt_iff_toInt_lt.mp z
      have b := Int32.le_iff_toInt_le.mp h1
      omega) h2
    have : ∀ j, j ≤ 15 → nI j &&& (-16) = 0 := by decide +kernel
    rw [e]; exact this j hj
theorem sim_rules {S : XS} {T : MS} (h : Rel S T) (v : Int32) : ∃ r S' T', fX5_rules v S = some (r, S') ∧ fX6_rules v T = some (r, T') ∧ Rel S' T' := by
  unfold fX5_rules fX6_rules
  rw [within_eq, if_bid, h.2.2.1]
  by_cases hc : 0 ≤ v ∧ v ≤ 15
  · rw [if_pos ((rules_out v).mpr hc), if_pos hc, bnd_s, bnd_s, bnd_s, bnd_s]
    refine ⟨_, _, _, rfl, rfl, ?_⟩
    obtain ⟨⟨hn, ht, hst, hh, hru, hro⟩, x0, x1, x2, x3, x4, x5, x6, x7, x8⟩ := h
    obtain ⟨j, hj, e⟩ := nI_of2 (x := v) (M := 15) (n := 15) rfl (fun z => by
      have a := Int32.lt_iff_toInt_lt.mp z
      have b := Int32.le_iff_toInt_le.mp hc.1
      omega) hc.2
    exact ⟨⟨hn, ht, hst, hh, ⟨j, by omega, e⟩, hro⟩, x0, rfl, x2, x3, x4, x5, x6, x7, x8⟩
  · rw [if_neg (fun z => hc ((rules_out v).mp z)), if_neg hc]
    exact ⟨_, _, _, rfl, rfl, h⟩
