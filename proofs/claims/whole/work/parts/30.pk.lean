/-! who has what: ofPerson, rank, many, asked -/
theorem S8_suN (n : Nat) (sp : Nat → Bool) (o lk : Nat → Int32) (k : Nat) : S8 (suN n sp o lk k) := by
  intro p hp
  cases hb : tb (suN n sp o lk k) p
  · rfl
  · unfold suN at hb
    obtain ⟨i, hi, c⟩ := (tb_orN _ _ _).mp hb
    by_cases q : sp k = true ∧ 0 < wwN n sp o lk k i
    · rw [if_pos q, tb_sh (by omega)] at c
      have := of_decide_eq_true c
      omega
    · rw [if_neg q, tb_0] at c; cases c
theorem tb_suN {n : Nat} (sp : Nat → Bool) (o lk : Nat → Int32) (k : Nat) {p : Nat} (hp : p < 8) : tb (suN n sp o lk k) p = true ↔ (sp k = true ∧ 0 < wwN n sp o lk k p) := by
  unfold suN
  rw [tb_orN]
  constructor
  · rintro ⟨i, hi, c⟩
    by_cases q : sp k = true ∧ 0 < wwN n sp o lk k i
    · rw [if_pos q, tb_sh (by omega)] at c
      have := of_decide_eq_true c
      subst this
      exact q
    · rw [if_neg q, tb_0] at c; cases c
  · intro q
    exact ⟨p, hp, by rw [if_pos q, tb_sh (by omega)]; simp⟩
theorem one0 : ∀ v, v < 256 → ∀ p, p < 8 → (tb (nI v) p && decide (sz (nI v) = 1)) = decide (nI v = (1 : Int32) <<< (nI p &&& 31)) := by decide +kernel
theorem one8 {x : Int32} (h : S8 x) {p : Nat} (hp : p < 8) : (tb x p && decide (sz x = 1)) = decide (x = (1 : Int32) <<< (nI p &&& 31)) := by
  obtain ⟨v, hv, rfl⟩ := h.nat
  exact one0 v hv p hp
abbrev suT (T : MS) : Nat → Int32 := suN (nT T) (spT T) (oT T) (lkT T)
def hcN (T : MS) (p : Nat) : Nat := cntN (fun k => decide (suT T k = (1 : Int32) <<< (nI p &&& 31))) (nT T)
def mcN (T : MS) (p : Nat) : Nat := cntN (fun k => tb (suT T k) p) (nT T)
/-- the reference, behind findSure -/
def sureM (T B : MS) : Prop := cor T B ∧ waysIn T B ∧ ∀ k, k < nT T → ma B 15 k = suT T k
theorem m_had {T B : MS} (h : wfM T) (hB : sureM T B) {p : Nat} (hp : p < 8) : fX6_manyHad (nI p) true B = some (nI (hcN T p)) := by
  have hn := h.1
  have h3 : mi B 3 = nI (nT T) := by rw [hB.1.1 3 (by omega)]; exact hn.1
  unfold fX6_manyHad hcN
  refine lp_go _ (fun j => (nI p, true, nI (cntN (fun k => decide (suT T k = (1 : Int32) <<< (nI p &&& 31))) j), nI j, B)) _ (nT T) (by omega) ?_ ?_
  · intro j hj k0
    dsimp only
    unfold bX6_manyHad_5
    rw [h3, if_neg (nI_ge hj (by omega)), ck_in (inb_nI (by omega) (by decide)), cl_nI (by omega), hB.2.2 j hj, has_nI _ (by omega), if_bi, bi_t, if_neg (show ¬ (1 : Int32) = 0 by decide), ck_in (inb_nI (by omega) (by decide)), m_size, ob1_s]
    simp only [bnd_s]
    rw [Int32.add_zero, nI_1, nI_1]
    have hs := sz_le (suT T j)
    have ho := one8 (S8_suN (nT T) (spT T) (oT T) (lkT T) j) hp
    have hz : (nI (sz (suT T j)) = 1) ↔ sz (suT T j) = 1 := nI_eq (b := 1) (by omega) (by omega)
    cases hb : tb (suT T j) p
    · rw [if_neg (by simp), cntN_f (by rw [← ho, show tb (suN (nT T) (spT T) (oT T) (lkT T) j) p = false from hb]; rfl)]
    · rw [if_pos rfl]
      by_cases q : sz (suT T j) = 1
      · rw [if_pos (hz.mpr q), cntN_t (by rw [← ho, show tb (suN (nT T) (spT T) (oT T) (lkT T) j) p = true from hb]; simp; exact q)]
      · rw [if_neg (fun z => q (hz.mp z)), cntN_f (by rw [← ho, show tb (suN (nT T) (spT T) (oT T) (lkT T) j) p = true from hb]; simp; exact q)]
  · intro k0
    dsimp only
    unfold bX6_manyHad_5
    rw [h3, if_pos (nI_le (Nat.le_refl _) (by omega))]
theorem m_may' {T B : MS} (h : wfM T) (hB : sureM T B) {p : Nat} (hp : p < 8) : fX6_manyHad (nI p) false B = some (nI (mcN T p)) := by
  have hn := h.1
  have h3 : mi B 3 = nI (nT T) := by rw [hB.1.1 3 (by omega)]; exact hn.1
  unfold fX6_manyHad mcN
  refine lp_go _ (fun j => (nI p, false, nI (cntN (fun k => tb (suT T k) p) j), nI j, B)) _ (nT T) (by omega) ?_ ?_
  · intro j hj k0
    dsimp only
    unfold bX6_manyHad_5
    rw [h3, if_neg (nI_ge hj (by omega)), ck_in (inb_nI (by omega) (by decide)), cl_nI (by omega), hB.2.2 j hj, has_nI _ (by omega), if_bi, bi_f, if_pos (show (0 : Int32) = 0 from rfl), bnd_s, bnd_s, Int32.add_zero, nI_1, nI_1]
    cases hb : tb (suT T j) p
    · rw [if_neg (by simp), cntN_f (P := fun k => tb (suT T k) p) hb]
    · rw [if_pos rfl, cntN_t (P := fun k => tb (suT T k) p) hb]
  · intro k0
    dsimp only
    unfold bX6_manyHad_5
    rw [h3, if_pos (nI_le (Nat.le_refl _) (by omega))]
/-- the class, behind countWays -/
def sureX (T : MS) (B : XS) : Prop := xi B 5 = nI (nT T) ∧ ∀ k, k < nT T → xa B 15 k = suT T k
theorem x_isHad {T : MS} (hn : nT T ≤ 16) {B : XS} (hB : sureX T B) {k p : Nat} (hk : k < nT T) (hp : p < 8) : fX0_isHadBy (nI k) (nI p) B = some (decide (suT T k = (1 : Int32) <<< (nI p &&& 31))) := by
  unfold fX0_isHadBy
  rw [show (8 : Int32) = nI 8 from rfl, within_nI hp (by omega), if_neg (by decide), x_sur hB.1 hn, ob1_s, rd_in _ hn hk, hB.2 k hk, x_bitOf hp]
  by_cases q : suT T k = (1 : Int32) <<< (nI p &&& 31)
  · rw [if_pos q]; simp [q]
  · rw [if_neg q]; simp [q]
theorem x_had {T : MS} (hn : nT T ≤ 16) {B : XS} (hB : sureX T B) {p : Nat} (hp : p < 8) : fX0_hadBy (nI p) B = some (nI (hcN T p)) := by
  unfold fX0_hadBy hcN
  refine lp_go _ (fun j => (nI p, nI (cntN (fun k => decide (suT T k = (1 : Int32) <<< (nI p &&& 31))) j), nI j, B)) _ (nT T) (by omega) ?_ ?_
  · intro j hj k0
    dsimp only
    unfold bX0_hadBy_4
    rw [hB.1, if_neg (nI_ge hj (by omega)), x_isHad hn hB hj hp, ob1_s, if_bid, nI_1, nI_1]
    by_cases q : suT T j = (1 : Int32) <<< (nI p &&& 31)
    · rw [if_pos q, cntN_t (by rw [decide_eq_true_iff]; exact q)]
    · rw [if_neg q, cntN_f (by rw [decide_eq_false_iff_not]; exact q)]
  · intro k0
    dsimp only
    unfold bX0_hadBy_4
    rw [hB.1, if_pos (nI_le (Nat.le_refl _) (by omega))]
theorem x_maybe {T : MS} (hn : nT T ≤ 16) {B : XS} (hB : sureX T B) {p : Nat} (hp : p < 8) : fX0_maybeHadBy (nI p) B = some (nI (mcN T p)) := by
  unfold fX0_maybeHadBy mcN
  refine lp_go _ (fun j => (nI p, nI (cntN (fun k => tb (suT T k) p) j), nI j, B)) _ (nT T) (by omega) ?_ ?_
  · intro j hj k0
    dsimp only
    unfold bX0_maybeHadBy_4
    rw [hB.1, if_neg (nI_ge hj (by omega)), x_sur hB.1 hn, ob1_s, rd_in _ hn hj, hB.2 j hj, x_bitOf hp, nI_1, nI_1]
    cases hb : tb (suT T j) p
    · rw [if_pos ((and_bit (by omega)).mpr hb), cntN_f (P := fun k => tb (suT T k) p) hb]
    · rw [if_neg (fun q => by rw [(and_bit (by omega)).mp q] at hb; cases hb), cntN_t (P := fun k => tb (suT T k) p) hb]
  · intro k0
    dsimp only
    unfold bX0_maybeHadBy_4
    rw [hB.1, if_pos (nI_le (Nat.le_refl _) (by omega))]
/-- first and last of a kind -/
def fstF (P : Nat → Bool) : Nat → Int32
  | 0 => -9
  | j + 1 => if fstF P j = -9 then (if P j then nI j else -9) else fstF P j
def lstF (P : Nat → Bool) : Nat → Int32
  | 0 => -9
  | j + 1 => if P j then nI j else lstF P j
theorem nI_ne9' {q : Nat} (hq : q < 2 ^ 31) : nI q ≠ -9 := by
  intro e
  have h0 : ¬ nI q < 0 := nI_pos (by omega)
  rw [e] at h0
  exact absurd (by decide) h0
theorem fstF_none {P : Nat → Bool} {n : Nat} (h : ∀ i, i < n → P i = false) : fstF P n = -9 := by
  induction n with
  | zero => rfl
  | succ n ih => simp only [fstF]; rw [ih (fun i hi => h i (by omega)), if_pos rfl, if_neg (by rw [h n (by omega)]; simp)]
theorem fstF_hit {P : Nat → Bool} {i n : Nat} (hi : i < n) (hn : n < 1000) (hp : P i = true) (hmin : ∀ j, j < i → P j = false) : fstF P n = nI i := by
  induction n with
  | zero => omega
  | succ n ih =>
    simp only [fstF]
    by_cases e : i = n
    · subst e; rw [fstF_none hmin, if_pos rfl, if_pos hp]
    · rw [ih (by omega) (by omega), if_neg (nI_ne9' (by omega))]
theorem lstF_none {P : Nat → Bool} {n : Nat} (h : ∀ i, i < n → P i = false) : lstF P n = -9 := by
  induction n with
  | zero => rfl
  | succ n ih => simp only [lstF]; rw [if_neg (by rw [h n (by omega)]; simp), ih (fun i hi => h i (by omega))]
theorem lstF_hit {P : Nat → Bool} {i n : Nat} (hi : i < n) (hp : P i = true) (hmax : ∀ j, i < j → j < n → P j = false) : lstF P n = nI i := by
  induction n with
  | zero => omega
  | succ n ih =>
    simp only [lstF]
    by_cases e : i = n
    · subst e; rw [if_pos hp]
    · rw [if_neg (by rw [hmax n (by omega) (by omega)]; simp), ih (by omega) (fun j h1 h2 => hmax j h1 (by omega))]
abbrev hadP (T : MS) (p : Nat) : Nat → Bool := fun k => decide (suT T k = (1 : Int32) <<< (nI p &&& 31))
theorem m_first {T B : MS} (h : wfM T) (hB : sureM T B) (p : Nat) : fX6_firstHad (nI p) false B = some (fstF (hadP T p) (nT T)) := by
  have hn := h.1
  have h3 : mi B 3 = nI (nT T) := by rw [hB.1.1 3 (by omega)]; exact hn.1
  unfold fX6_firstHad
  refine lp_go _ (fun j => (nI p, false, fstF (hadP T p) j, nI j, B)) _ (nT T) (by omega) ?_ ?_
  · intro j hj k0
    dsimp only
    unfold bX6_firstHad_6
    rw [h3, if_neg (nI_ge hj (by omega)), ck_in (inb_nI (by omega) (by decide)), cl_nI (by omega), hB.2.2 j hj, bi_f, if_pos (show (0 : Int32) = 0 from rfl), nI_1]
    simp only [fstF]
    by_cases q : suT T j = (1 : Int32) <<< (nI p &&& 31)
    · rw [if_pos q, if_pos (show hadP T p j = true by simp [q])]
      by_cases z : fstF (hadP T p) j = -9
      · rw [if_pos z, if_pos z]
      · rw [if_neg z, if_neg z]
    · rw [if_neg q, if_neg (show ¬ hadP T p j = true by simp [q])]
      by_cases z : fstF (hadP T p) j = -9
      · rw [if_pos z, z]
      · rw [if_neg z]
  · intro k0
    dsimp only
    unfold bX6_firstHad_6
    rw [h3, if_pos (nI_le (Nat.le_refl _) (by omega))]
theorem m_last {T B : MS} (h : wfM T) (hB : sureM T B) (p : Nat) : fX6_firstHad (nI p) true B = some (lstF (hadP T p) (nT T)) := by
  have hn := h.1
  have h3 : mi B 3 = nI (nT T) := by rw [hB.1.1 3 (by omega)]; exact hn.1
  unfold fX6_firstHad
  refine lp_go _ (fun j => (nI p, true, lstF (hadP T p) j, nI j, B)) _ (nT T) (by omega) ?_ ?_
  · intro j hj k0
    dsimp only
    unfold bX6_firstHad_6
    rw [h3, if_neg (nI_ge hj (by omega)), ck_in (inb_nI (by omega) (by decide)), cl_nI (by omega), hB.2.2 j hj, bi_t, if_neg (show ¬ (1 : Int32) = 0 by decide), nI_1]
    simp only [lstF]
    by_cases q : suT T j = (1 : Int32) <<< (nI p &&& 31)
    · rw [if_pos q, if_pos (show hadP T p j = true by simp [q])]
      by_cases z : lstF (hadP T p) j = -9
      · rw [if_pos z]
      · rw [if_neg z]
    · rw [if_neg q, if_neg (show ¬ hadP T p j = true by simp [q])]
  · intro k0
    dsimp only
    unfold bX6_firstHad_6
    rw [h3, if_pos (nI_le (Nat.le_refl _) (by omega))]
theorem x_first {T : MS} (hn : nT T ≤ 16) {B : XS} (hB : sureX T B) {p : Nat} (hp : p < 8) : fX0_firstHadBy (nI p) B = some (fstF (hadP T p) (nT T)) := by
  unfold fX0_firstHadBy
  by_cases hex : ∃ i, i < nT T ∧ hadP T p i = true
  · obtain ⟨i, ⟨hi, hpi⟩, hmin⟩ := pk_least _ hex
    have hmin' : ∀ j, j < i → hadP T p j = false := fun j hj => by
      cases hq : hadP T p j
      · rfl
      · exact absurd ⟨by omega, hq⟩ (hmin j hj)
    rw [fstF_hit hi (by omega) hpi hmin']
    refine lp_go _ (fun j => (nI p, nI j, B)) _ i (by omega) ?_ ?_
    · intro j hj k0
      dsimp only
      unfold bX0_firstHadBy_2
      rw [hB.1, if_neg (nI_ge (by omega) (by omega)), x_isHad hn hB (by omega) hp, ob1_s, if_bi, if_neg (by rw [show decide (suT T j = _) = hadP T p j from rfl, hmin' j hj]; simp), nI_1]
    · intro k0
      dsimp only
      unfold bX0_firstHadBy_2
      rw [hB.1, if_neg (nI_ge (by omega) (by omega)), x_isHad hn hB (by omega) hp, ob1_s, if_bi, if_pos hpi]
  · have hno : ∀ i, i < nT T → hadP T p i = false := fun i hi => by
      cases hq : hadP T p i
      · rfl
      · exact absurd ⟨i, hi, hq⟩ hex
    rw [fstF_none hno]
    refine lp_go _ (fun j => (nI p, nI j, B)) _ (nT T) (by omega) ?_ ?_
    · intro j hj k0
      dsimp only
      unfold bX0_firstHadBy_2
      rw [hB.1, if_neg (nI_ge (by omega) (by omega)), x_isHad hn hB (by omega) hp, ob1_s, if_bi, if_neg (by rw [show decide (suT T j = _) = hadP T p j from rfl, hno j hj]; simp), nI_1]
    · intro k0
      dsimp only
      unfold bX0_firstHadBy_2
      rw [hB.1, if_pos (nI_le (Nat.le_refl _) (by omega))]
theorem x_last {T : MS} (hn : nT T ≤ 16) {B : XS} (hB : sureX T B) {p : Nat} (hp : p < 8) : fX0_lastHadBy (nI p) B = some (lstF (hadP T p) (nT T)) := by
  unfold fX0_lastHadBy
  rw [bnd_s, hB.1]
  have e0 : ∀ j, j < nT T → nI (nT T - j) - 1 = nI (nT T - 1 - j) := fun j hj => by rw [show (1 : Int32) = nI 1 from rfl, pk_sub (by omega)]; congr 1; omega
  have e1 : ∀ j, j < nT T → nI (nT T - 1 - j) + (-1) = nI (nT T - (j + 1)) - 1 := fun j hj => by rw [show nT T - (j + 1) = nT T - 1 - j from by omega, Int32.sub_eq_add_neg]
  by_cases hex : ∃ d, d < nT T ∧ hadP T p (nT T - 1 - d) = true
  · obtain ⟨d, ⟨hd, hpd⟩, hmin⟩ := pk_least _ hex
    have hmin' : ∀ j, j < d → hadP T p (nT T - 1 - j) = false := fun j hj => by
      cases hq : hadP T p (nT T - 1 - j)
      · rfl
      · exact absurd ⟨by omega, hq⟩ (hmin j hj)
    rw [lstF_hit (i := nT T - 1 - d) (by omega) hpd (fun j h1 h2 => by
      have := hmin' (nT T - 1 - j) (by omega)
      rw [show nT T - 1 - (nT T - 1 - j) = j from by omega] at this
      exact this)]
    refine lp_go _ (fun j => (nI p, nI (nT T - j) - 1, B)) _ d (by omega) ?_ ?_
    · intro j hj k0
      dsimp only
      unfold bX0_lastHadBy_7
      rw [e0 j (by omega), if_neg (nI_pos (by omega)), x_isHad hn hB (by omega) hp, ob1_s, if_bi, if_neg (by rw [show decide (suT T (nT T - 1 - j) = _) = hadP T p (nT T - 1 - j) from rfl, hmin' j hj]; simp), e1 j (by omega)]
    · intro k0
      dsimp only
      unfold bX0_lastHadBy_7
      rw [e0 d (by omega), if_neg (nI_pos (by omega)), x_isHad hn hB (by omega) hp, ob1_s, if_bi, if_pos hpd]
  · have hno : ∀ i, i < nT T → hadP T p i = false := fun i hi => by
      cases hq : hadP T p i
      · rfl
      · exact absurd ⟨nT T - 1 - i, by omega, by rw [show nT T - 1 - (nT T - 1 - i) = i from by omega]; exact hq⟩ hex
    rw [lstF_none hno]
    refine lp_go _ (fun j => (nI p, nI (nT T - j) - 1, B)) _ (nT T) (by omega) ?_ ?_
    · intro j hj k0
      dsimp only
      unfold bX0_lastHadBy_7
      rw [e0 j (by omega), if_neg (nI_pos (by omega)), x_isHad hn hB (by omega) hp, ob1_s, if_bi, if_neg (by rw [show decide (suT T (nT T - 1 - j) = _) = hadP T p (nT T - 1 - j) from rfl, hno _ (by omega)]; simp), e1 j (by omega)]
    · intro k0
      dsimp only
      unfold bX0_lastHadBy_7
      rw [Nat.sub_self, if_pos (by decide)]
theorem both_sure {S : XS} {T : MS} (h : Rel S T) : (∃ B, fX0_countWays (filX S T (nT T)) = some (lN (upT (spT T) (oT T) (lkT T) 0 (nT T)), B) ∧ Rel B T ∧ chX (nT T) (spT T) (oT T) (lkT T) B ∧ waysX (nT T) (spT T) (oT T) (lkT T) B ∧ sureX T B) ∧ ∃ C, fX6_findSure T = some C ∧ sureM T C := by
  obtain ⟨B, h1, hR, hc, hw, h15⟩ := x_waysAll h
  obtain ⟨C, h2, hf, hwC, hs⟩ := m_findSure h.1
  have hn := h.1.1
  refine ⟨⟨B, h1, hR, hc, hw, hc.1, fun k hk => ?_⟩, C, h2, frM_cor hf (fun a e => by rcases e with e | e <;> omega), hwC, hs⟩
  rw [h15 k (by omega)]
  unfold ex0
  rw [if_pos hk]
theorem sim_ofPerson {S : XS} {T : MS} (h : Rel S T) (x w : Int32) : ∃ r S' T', fX5_ofPerson x w S = some (r, S') ∧ fX6_ofPerson x w T = some (r, T') ∧ Rel S' T' := by
  have hn := h.1.1
  unfold fX5_ofPerson fX6_ofPerson
  rw [x_isThere h, m_isThere, ob1_s, if_bi, if_bi]
  cases hp : isTh T x
  · exact ⟨_, _, _, rfl, rfl, h⟩
  · rw [if_pos rfl, if_pos rfl]
    obtain ⟨p, hp8, rfl⟩ : ∃ q, q < 8 ∧ x = nI q := (in8_iff x).mp (Classical.byContradiction (fun z => by rw [isTh_out T z] at hp; cases hp))
    rw [isTh_nI T hp8] at hp
    have hth := (tb_thT T p).mp hp
    obtain ⟨⟨B, h1, hRB, -, -, hsB⟩, C, h2, hsC⟩ := both_sure h
    have hcC := hsC.1
    have hRC : Rel S C := Rel_cor h (corX_rfl _) hcC
    have hRBC : Rel B C := Rel_cor hRB (corX_rfl _) hcC
    have hso : fX2_sortOf (nI p) S = some (ma T 1 p) := by
      unfold fX2_sortOf
      rw [show (8 : Int32) = nI 8 from rfl, within_nI hp8 (by omega), if_neg (by decide), x_isThere h, isTh_nI T hp8, hp, if_neg (by decide), ck_in (inb_nI hp8 (by decide)), cl_nI (by omega), h.2.2.2.2.1 p hp8 hth.2]
    rw [h2, ob1_s, hso, ob1_s, x_fill h, ob1_s, h1, ob2_s, x_had hn.2 hsB hp8, ob1_s, x_maybe hn.2 hsB hp8, ob1_s, x_first hn.2 hsB hp8, ob1_s, x_last hn.2 hsB hp8, ob1_s, ck_in (inb_nI hp8 (by decide)), cl_nI (by omega), m_had h.1 hsC hp8, ob1_s, m_may' h.1 hsC hp8, ob1_s, m_first h.1 hsC, ob1_s, m_last h.1 hsC, ob1_s, has_nI _ (by omega), x_bitOf hp8, if_bi, h.2.1, hcC.1 0 (by omega), hcC.2 1 (by omega)]
    by_cases w0 : w = 0
    · rw [w0, if_neg (by decide), if_pos (by decide), if_pos rfl, if_pos rfl]; exact ⟨_, _, _, rfl, rfl, hRC⟩
    · rw [if_neg w0, if_neg w0]
      by_cases w1 : w = 1
      · rw [w1, if_neg (by decide), if_pos (by decide), if_neg (by decide), if_pos rfl, if_pos rfl]; exact ⟨_, _, _, rfl, rfl, hRBC⟩
      · rw [if_neg w1, if_neg w1]
        by_cases w2 : w = 2
        · rw [w2, if_neg (by decide), if_pos (by decide), if_neg (by decide), if_pos rfl, if_pos rfl]; exact ⟨_, _, _, rfl, rfl, hRBC⟩
        · rw [if_neg w2, if_neg w2]
          by_cases w3 : w = 3
          · rw [w3, if_neg (by decide), if_pos (by decide), if_neg (by decide), if_pos rfl, if_pos rfl]; exact ⟨_, _, _, rfl, rfl, hRBC⟩
          · rw [if_neg w3, if_neg w3]
            by_cases w4 : w = 4
            · rw [w4, if_neg (by decide), if_pos (by decide), if_neg (by decide), if_pos rfl]; exact ⟨_, _, _, rfl, rfl, hRBC⟩
            · rw [if_neg w4]
              by_cases w5 : w = 5
              · rw [w5, if_neg (by decide), if_pos (by decide), if_pos rfl, if_pos rfl]
                cases hb : tb (mi T 0) p
                · rw [if_pos ((and_bit (by omega)).mpr hb)]; exact ⟨_, _, _, rfl, rfl, hRC⟩
                · rw [if_neg (fun q => by rw [(and_bit (by omega)).mp q] at hb; cases hb)]; exact ⟨_, _, _, rfl, rfl, hRC⟩
              · rw [if_neg w5]
                by_cases hw : w < 0
                · rw [if_pos hw, if_neg w5]; exact ⟨_, _, _, rfl, rfl, hRC⟩
                · rw [if_neg hw, if_neg w5]
                  have : ¬ w ≤ 5 := fun z => by
                    obtain ⟨j, hj, e⟩ := nI_of2 (x := w) (M := 5) (n := 5) rfl hw z
                    rcases (show j = 0 ∨ j = 1 ∨ j = 2 ∨ j = 3 ∨ j = 4 ∨ j = 5 by omega) with rfl | rfl | rfl | rfl | rfl | rfl
                    · exact w0 e
                    · exact w1 e
                    · exact w2 e
                    · exact w3 e
                    · exact w4 e
                    · exact w5 e
                  rw [if_neg this]; exact ⟨_, _, _, rfl, rfl, hRC⟩
