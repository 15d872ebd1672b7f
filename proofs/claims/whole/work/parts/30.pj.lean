/-! conflict, asked -/
theorem upT_lt {n : Nat} (sp : Nat → Bool) (o lk : Nat → Int32) {b d : Nat} (hd : b + d ≤ n) (hn : n ≤ 16) : upT sp o lk b d < 2 ^ 63 := by
  have h1 : upT sp o lk b d ≤ 8 ^ d := tW_le _ _ _
  have h2 : 8 ^ d ≤ 8 ^ 16 := Nat.pow_le_pow_right (by decide) (by omega)
  have h3 : (8 : Nat) ^ 16 < 2 ^ 63 := by decide
  omega
theorem eq0 {w : Nat} (h : w < 2 ^ 63) : (lg_cmp (lN w) 0 = 0) ↔ w = 0 := by
  have e : lg_cmp (lN w) 0 = 0 ↔ lN w = 0 := by
    unfold lg_cmp
    by_cases h1 : lN w > 0
    · rw [if_pos h1]
      constructor
      · intro q; exact absurd q (by decide)
      · intro q; rw [q] at h1; exact absurd h1 (by decide)
    · rw [if_neg h1]
      by_cases h2 : lN w = 0
      · rw [if_pos h2]; simp [h2]
      · rw [if_neg h2]
        constructor
        · intro q; exact absurd q (by decide)
        · intro q; exact absurd q h2
  rw [e, show (0 : Int64) = lN 0 from rfl, pk_lEQ h (by decide)]
theorem x_ww {S : XS} {n : Nat} {sp : Nat → Bool} {o lk : Nat → Int32} (hn : n ≤ 16) (h : chX n sp o lk S) (hlk : lkOk n sp lk) (ho8 : ∀ k, k < n → S8 (o k)) {b m : Nat} (hb : b ≤ m) (hm : m < n) : ∃ B, fX0_waysWithin (nI b) (nI m) S = some (lN (upT sp o lk b (m - b + 1)), B) ∧ sameY 13 S B := by
  obtain ⟨B, h1, h2, -⟩ := x_within_ways hn h hlk ho8 (b := b) (d := m - b + 1) (by omega)
  have e : nI (b + (m - b + 1)) - 1 = nI m := by rw [show (1 : Int32) = nI 1 from rfl, pk_sub (by omega)]; congr 1; omega
  rw [e] at h1
  exact ⟨B, h1, h2⟩
theorem m_ww {T : MS} (h : wfM T) {A : MS} (hA : hasOwn T A) {b m : Nat} (hb : b ≤ m) (hm : m < nT T) : ∃ B, fX6_countUp (nI b) (nI m) A = some (lN (upT (spT T) (oT T) (lkT T) b (m - b + 1)), B) ∧ sameX 13 A B := by
  have hn := h.1
  obtain ⟨B, h1, h2, -⟩ := m_countUp h (b := b) (d := m - b + 1) (by omega) hA
  have e : nI (b + (m - b + 1)) - 1 = nI m := by rw [show (1 : Int32) = nI 1 from rfl, pk_sub (by omega)]; congr 1; omega
  rw [e] at h1
  exact ⟨B, h1, h2⟩
/-- the class: where a conflict ends -/
theorem x_cEnd {S : XS} {n : Nat} {sp : Nat → Bool} {o lk : Nat → Int32} (hn : n ≤ 16) (h : chX n sp o lk S) (hlk : lkOk n sp lk) (ho8 : ∀ k, k < n → S8 (o k)) {e : Nat} (he : e ≤ n) (hgo : ∀ i, i < e → upT sp o lk 0 (i + 1) ≠ 0) (hst : e < n → upT sp o lk 0 (e + 1) = 0) : ∃ B, fX0_conflictEnd S = some (if e < n then nI e else -9, B) ∧ sameY 13 S B := by
  unfold fX0_conflictEnd
  refine lp_in _ (fun (j : Nat) (q : Int32 × XS) => q.1 = nI j ∧ sameY 13 S q.2) (fun z => ∃ B, z = some (if e < n then nI e else -9, B) ∧ sameY 13 S B) e (by omega) (0, S) ⟨rfl, sameY_rfl _ _⟩ ?_ ?_
  · rintro j ⟨x, C⟩ hj ⟨ex, hC⟩
    dsimp only at ex hC
    subst ex
    have hcC := sameY_ch hC h
    obtain ⟨B, hB, hsB⟩ := x_ww hn hcC hlk ho8 (b := 0) (m := j) (Nat.zero_le _) (by omega)
    have hB : fX0_waysWithin 0 (nI j) C = some (lN (upT sp o lk 0 (j + 1)), B) := hB
    refine ⟨(nI (j + 1), B), ⟨rfl, sameY_trans hC hsB⟩, ?_⟩
    intro k0
    dsimp only
    unfold bX0_conflictEnd_2
    rw [hcC.1, if_neg (nI_ge (by omega) (by omega)), hB, ob2_s, if_neg (fun q => hgo j hj ((eq0 (upT_lt sp o lk (n := n) (by omega) hn)).mp q)), nI_1]
  · rintro ⟨x, C⟩ ⟨ex, hC⟩
    dsimp only at ex hC
    subst ex
    have hcC := sameY_ch hC h
    by_cases hen : e < n
    · obtain ⟨B, hB, hsB⟩ := x_ww hn hcC hlk ho8 (b := 0) (m := e) (Nat.zero_le _) hen
      have hB : fX0_waysWithin 0 (nI e) C = some (lN (upT sp o lk 0 (e + 1)), B) := hB
      refine ⟨_, ⟨B, rfl, sameY_trans hC hsB⟩, ?_⟩
      intro k0
      dsimp only
      unfold bX0_conflictEnd_2
      rw [hcC.1, if_neg (nI_ge hen (by omega)), hB, ob2_s, if_pos ((eq0 (upT_lt sp o lk (n := n) (by omega) hn)).mpr (hst hen)), if_pos hen]
    · refine ⟨_, ⟨C, rfl, hC⟩, ?_⟩
      intro k0
      dsimp only
      unfold bX0_conflictEnd_2
      rw [hcC.1, if_pos (nI_le (by omega) (by omega)), if_neg hen]
theorem x_cBeg {S : XS} {n : Nat} {sp : Nat → Bool} {o lk : Nat → Int32} (hn : n ≤ 16) (h : chX n sp o lk S) (hlk : lkOk n sp lk) (ho8 : ∀ k, k < n → S8 (o k)) {e d : Nat} (he : e < n) (hd : d ≤ e) (hgo : ∀ i, i < d → upT sp o lk (e - i) (i + 1) ≠ 0) (hst : upT sp o lk (e - d) (d + 1) = 0) : ∃ B, fX0_conflictBeginning (nI e) S = some (nI (e - d), B) ∧ sameY 13 S B := by
  unfold fX0_conflictBeginning
  refine lp_in _ (fun (j : Nat) (q : Int32 × Int32 × XS) => q.1 = nI e ∧ q.2.1 = nI (e - j) ∧ sameY 13 S q.2.2) (fun z => ∃ B, z = some (nI (e - d), B) ∧ sameY 13 S B) d (by omega) (nI e, nI e, S) ⟨rfl, rfl, sameY_rfl _ _⟩ ?_ ?_
  · rintro j ⟨x, y, C⟩ hj ⟨ex, ey, hC⟩
    dsimp only at ex ey hC
    subst ex; subst ey
    have hcC := sameY_ch hC h
    obtain ⟨B, hB, hsB⟩ := x_ww hn hcC hlk ho8 (b := e - j) (m := e) (by omega) he
    rw [show e - (e - j) + 1 = j + 1 from by omega] at hB
    refine ⟨(nI e, nI (e - (j + 1)), B), ⟨rfl, rfl, sameY_trans hC hsB⟩, ?_⟩
    intro k0
    dsimp only
    unfold bX0_conflictBeginning_2
    have e1 : nI (e - j) + (-1) = nI (e - (j + 1)) := by
      rw [show e - j = (e - (j + 1)) + 1 from by omega, pk_m1]
    rw [if_neg (nI_pos (by omega)), hB, ob2_s, if_neg (fun q => hgo j hj ((eq0 (upT_lt sp o lk (n := n) (by omega) hn)).mp q)), e1]
  · rintro ⟨x, y, C⟩ ⟨ex, ey, hC⟩
    dsimp only at ex ey hC
    subst ex; subst ey
    have hcC := sameY_ch hC h
    obtain ⟨B, hB, hsB⟩ := x_ww hn hcC hlk ho8 (b := e - d) (m := e) (by omega) he
    rw [show e - (e - d) + 1 = d + 1 from by omega] at hB
    refine ⟨_, ⟨B, rfl, sameY_trans hC hsB⟩, ?_⟩
    intro k0
    dsimp only
    unfold bX0_conflictBeginning_2
    rw [if_neg (nI_pos (by omega)), hB, ob2_s, if_pos ((eq0 (upT_lt sp o lk (n := n) (by omega) hn)).mpr hst)]
theorem sim_conflict {S : XS} {T : MS} (h : Rel S T) (w : Int32) : ∃ r S' T', fX5_conflict w S = some (r, S') ∧ fX6_conflict w T = some (r, T') ∧ Rel S' T' := by
  have hn := h.1.1
  unfold fX5_conflict fX6_conflict
  rw [within_eq, if_bid]
  have hw01 : (0 ≤ w ∧ w ≤ 1) ↔ (w = 0 ∨ w = 1) := by
    constructor
    · rintro ⟨a, b⟩
      obtain ⟨j, hj, e⟩ := nI_of2 (x := w) (M := 1) (n := 1) rfl (fun z => by
        have a := Int32.le_iff_toInt_le.mp a
        have b := Int32.lt_iff_toInt_lt.mp z
        omega) b
      rcases (show j = 0 ∨ j = 1 by omega) with rfl | rfl
      · exact Or.inl e
      · exact Or.inr e
    · rintro (rfl | rfl) <;> decide
  obtain ⟨A, hA, hfA, hwA⟩ := m_findWays h.1
  have hcA : cor T A := frM_cor hfA (fun a e => by omega)
  have hRA : Rel S A := Rel_cor h (corX_rfl _) hcA
  have hlk := lkT_ok T
  have ho8 := own_S8 h.1
  have hch := fill_ch S T
  have hcf := filX_cor S T (nT T)
  have main : (w = 0 ∨ w = 1) → ∃ r S' T', bX5_conflict_12 w S = some (r, S') ∧ (ob2 (fX6_findWays T) (fun r32 S34 => (if (lg_cmp r32 0) ≤ 0 then (lp (fun k q => bX6_conflict_26 k q.1 q.2.1 q.2.2) FU (w, 0, S34)) else (some ((-9), S34))))) = some (r, T') ∧ Rel S' T' := by
    intro hw
    unfold bX5_conflict_12
    rw [x_fill h, ob1_s, hA, ob2_s]
    have hlt := upT_lt (spT T) (oT T) (lkT T) (b := 0) (d := nT T) (n := nT T) (by omega) hn.2
    by_cases hz : upT (spT T) (oT T) (lkT T) 0 (nT T) = 0
    · rw [if_pos ((gt0 hlt).mpr hz)]
      have hn0 : 0 < nT T := by
        rcases Nat.eq_zero_or_pos (nT T) with e | e
        · rw [e] at hz; cases hz
        · exact e
      obtain ⟨e, he0, hemin⟩ := pk_least (fun e => upT (spT T) (oT T) (lkT T) 0 (e + 1) = 0) ⟨nT T - 1, by show upT _ _ _ 0 (nT T - 1 + 1) = 0; rw [show nT T - 1 + 1 = nT T from by omega]; exact hz⟩
      have hen : e < nT T := Nat.lt_of_not_le (fun q => hemin (nT T - 1) (by omega) (by show upT _ _ _ 0 (nT T - 1 + 1) = 0; rw [show nT T - 1 + 1 = nT T from by omega]; exact hz))
      obtain ⟨d, hd0, hdmin⟩ := pk_least (fun d => upT (spT T) (oT T) (lkT T) (e - d) (d + 1) = 0) ⟨e, by show upT _ _ _ (e - e) (e + 1) = 0; rw [Nat.sub_self]; exact he0⟩
      have hde : d ≤ e := Nat.le_of_not_lt (fun q => hdmin e q (by show upT _ _ _ (e - e) (e + 1) = 0; rw [Nat.sub_self]; exact he0))
      obtain ⟨B, hB, hsB⟩ := x_cEnd hn.2 hch hlk ho8 (e := e) (by omega) hemin (fun _ => he0)
      rw [if_pos hen] at hB
      have hcB := sameY_ch hsB hch
      obtain ⟨C, hC, hsC⟩ := x_cBeg hn.2 hcB hlk ho8 hen hde hdmin hd0
      have hRB : corX S B := corX_trans hcf (frX_cor (P := fun _ => False) (sameY_fr hsB) (fun _ q => q.elim))
      have hRC : corX S C := corX_trans hRB (frX_cor (P := fun _ => False) (sameY_fr hsC) (fun _ q => q.elim))
      have hne : ¬ nI e = -9 := by
        intro q
        have h0 : ¬ nI e < 0 := nI_pos (by omega)
        rw [q] at h0
        exact absurd (by decide) h0
      rw [hB, ob2_s, if_neg hne, hC, ob2_s]
      -- the reference
      have hm : ∃ T', lp (fun k q => bX6_conflict_26 k q.1 q.2.1 q.2.2) FU (w, 0, A) = some (if w = 0 then nI (e - d) else nI e, T') ∧ cor T T' := by
        refine lp_in _ (fun (j : Nat) (q : Int32 × Int32 × MS) => q.1 = w ∧ q.2.1 = nI j ∧ hasOwn T q.2.2) (fun z => ∃ T', z = some (if w = 0 then nI (e - d) else nI e, T') ∧ cor T T') e (by omega) (w, 0, A) ⟨rfl, rfl, hwA.1⟩ ?_ ?_
        · rintro j ⟨y1, y2, E⟩ hj ⟨e1, e2, hE⟩
          dsimp only at e1 e2 hE
          subst e1; subst e2
          obtain ⟨F, hF, hsF⟩ := m_ww h.1 hE (b := 0) (m := j) (Nat.zero_le _) (by omega)
          have hF : fX6_countUp 0 (nI j) E = some (lN (upT (spT T) (oT T) (lkT T) 0 (j + 1)), F) := hF
          refine ⟨(y1, nI (j + 1), F), ⟨rfl, rfl, sameX_own hsF hE⟩, ?_⟩
          intro k0
          dsimp only
          unfold bX6_conflict_26
          rw [hF, ob2_s, if_neg (fun q => hemin j hj ((gt0 (upT_lt (spT T) (oT T) (lkT T) (n := nT T) (by omega) hn.2)).mp q)), nI_1]
        · rintro ⟨y1, y2, E⟩ ⟨e1, e2, hE⟩
          dsimp only at e1 e2 hE
          subst e1; subst e2
          obtain ⟨F, hF, hsF⟩ := m_ww h.1 hE (b := 0) (m := e) (Nat.zero_le _) hen
          have hF : fX6_countUp 0 (nI e) E = some (lN (upT (spT T) (oT T) (lkT T) 0 (e + 1)), F) := hF
          have hFo := sameX_own hsF hE
          refine ⟨lp (fun k q => bX6_conflict_45 k q.1 q.2.1 q.2.2.1 q.2.2.2) FU (y1, nI e, nI e, F), ?_, ?_⟩
          · refine lp_in _ (fun (j : Nat) (q : Int32 × Int32 × Int32 × MS) => q.1 = y1 ∧ q.2.1 = nI e ∧ q.2.2.1 = nI (e - j) ∧ hasOwn T q.2.2.2) (fun z => ∃ T', z = some (if y1 = 0 then nI (e - d) else nI e, T') ∧ cor T T') d (by omega) (y1, nI e, nI e, F) ⟨rfl, rfl, rfl, hFo⟩ ?_ ?_
            · rintro j ⟨z1, z2, z3, G⟩ hj ⟨f1, f2, f3, hG⟩
              dsimp only at f1 f2 f3 hG
              subst f1; subst f2; subst f3
              obtain ⟨I, hI, hsI⟩ := m_ww h.1 hG (b := e - j) (m := e) (by omega) hen
              rw [show e - (e - j) + 1 = j + 1 from by omega] at hI
              have e1 : nI (e - j) + (-1) = nI (e - (j + 1)) := by
                rw [show e - j = (e - (j + 1)) + 1 from by omega, pk_m1]
              refine ⟨(z1, nI e, nI (e - (j + 1)), I), ⟨rfl, rfl, rfl, sameX_own hsI hG⟩, ?_⟩
              intro k0
              dsimp only
              unfold bX6_conflict_45
              rw [hI, ob2_s, if_neg (fun q => hdmin j hj ((gt0 (upT_lt (spT T) (oT T) (lkT T) (n := nT T) (by omega) hn.2)).mp q)), e1]
            · rintro ⟨z1, z2, z3, G⟩ ⟨f1, f2, f3, hG⟩
              dsimp only at f1 f2 f3 hG
              subst f1; subst f2; subst f3
              obtain ⟨I, hI, hsI⟩ := m_ww h.1 hG (b := e - d) (m := e) (by omega) hen
              rw [show e - (e - d) + 1 = d + 1 from by omega] at hI
              refine ⟨some (if z1 = 0 then nI (e - d) else nI e, I), ⟨I, rfl, (sameX_own hsI hG).1⟩, ?_⟩
              intro k0
              dsimp only
              unfold bX6_conflict_45
              rw [hI, ob2_s, if_pos ((gt0 (upT_lt (spT T) (oT T) (lkT T) (n := nT T) (by omega) hn.2)).mpr hd0)]
              by_cases q : z1 = 0
              · rw [if_pos q, if_pos q]
              · rw [if_neg q, if_neg q]
          · intro k0
            dsimp only
            unfold bX6_conflict_26
            rw [hF, ob2_s, if_pos ((gt0 (upT_lt (spT T) (oT T) (lkT T) (n := nT T) (by omega) hn.2)).mpr he0)]
      obtain ⟨T', hT', hcT'⟩ := hm
      rw [hT']
      rcases hw with rfl | rfl
      · rw [if_neg (show ¬ (0 : Int32) = 1 by decide), if_pos rfl]
        exact ⟨_, _, _, rfl, rfl, Rel_cor h hRC hcT'⟩
      · rw [if_pos rfl, if_neg (show ¬ (1 : Int32) = 0 by decide)]
        exact ⟨_, _, _, rfl, rfl, Rel_cor h hRB hcT'⟩
    · rw [if_neg (fun q => hz ((gt0 hlt).mp q))]
      have hall : ∀ i, i < nT T → upT (spT T) (oT T) (lkT T) 0 (i + 1) ≠ 0 := fun i hi q => hz (tW_zero' _ _ (by omega) q)
      obtain ⟨B, hB, hsB⟩ := x_cEnd hn.2 hch hlk ho8 (e := nT T) (Nat.le_refl _) hall (fun q => absurd q (by omega))
      rw [if_neg (by omega)] at hB
      rw [hB, ob2_s, if_pos rfl]
      exact ⟨_, _, _, rfl, rfl, Rel_cor hRA (corX_trans hcf (frX_cor (P := fun _ => False) (sameY_fr hsB) (fun _ q => q.elim))) (cor_rfl _)⟩
  by_cases w0 : w = 0
  · rw [if_pos w0, if_pos (hw01.mpr (Or.inl w0))]; exact main (Or.inl w0)
  · rw [if_neg w0]
    by_cases w1 : w = 1
    · rw [if_pos w1, if_pos (hw01.mpr (Or.inr w1))]; exact main (Or.inr w1)
    · rw [if_neg w1, if_neg (fun q => by rcases hw01.mp q with e | e; exact w0 e; exact w1 e)]
      exact ⟨_, _, _, rfl, rfl, h⟩
