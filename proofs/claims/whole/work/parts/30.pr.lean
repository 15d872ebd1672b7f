/-! the class finds the first fault -/
theorem x_codeAt {S : XS} {T : MS} (h : Rel S T) {i : Nat} (hi : i < tT T) : fX4_codeAt (nI i) S = some (ma T 2 i) := by
  have ht := h.1.2.1
  unfold fX4_codeAt
  rw [h.2.2.2.2.2.1, ht.1, within_nI hi (by omega), if_neg (by decide), if_neg (show ¬ (12 : Int32) ≤ nI i from nI_ge (b := 12) (by omega) (by omega)), ck_in (inb_nI (by omega) (by decide)), cl_nI (by omega), h.2.2.2.2.2.2.1 i hi]
theorem x_codeAt_out {S : XS} {T : MS} (h : Rel S T) {x : Int32} (hx : ¬ (0 ≤ x ∧ x < nI (tT T))) : fX4_codeAt x S = some (-1) := by
  have ht := h.1.2.1
  unfold fX4_codeAt
  rw [h.2.2.2.2.2.1, ht.1, x_within, if_bid, if_neg hx]
theorem m1_out {n : Nat} : ¬ (0 ≤ (nI 0 - 1 : Int32) ∧ (nI 0 - 1 : Int32) < nI n) := fun z => absurd z.1 (by decide)
theorem x_codeAhead {S : XS} {T : MS} (h : Rel S T) {i : Nat} (hi : i ≤ tT T) : fX4_codeAt (nI i - 1) S = some (ahT T i) := by
  cases i with
  | zero => exact x_codeAt_out h m1_out
  | succ i =>
    rw [nI_pred]
    exact x_codeAt h (by omega)
theorem x_mayStand {S : XS} {T : MS} (h : Rel S T) {i : Nat} (hi : i < tT T) : fX4_mayStand (nI i) (goT T) S = some (okT T i) := by
  have ht := h.1.2.1
  unfold fX4_mayStand
  rw [x_codeAt h hi, ob1_s, x_codeAhead h (by omega), ob1_s]
  have hnm : ∀ c, fX2_isName c S = nmT T c := fun c => by unfold fX2_isName nmT; exact x_isThere h _
  unfold okT
  rw [hnm]
  by_cases h1 : ahT T i = 64
  · rw [if_pos h1, if_pos h1]
  · rw [if_neg h1, if_neg h1]
    by_cases h2 : ma T 2 i = 43
    · rw [if_pos h2, if_pos h2]
      by_cases h0 : i = 0
      · rw [if_pos (by rw [h0]; rfl), if_bi, decide_eq_true h0, Bool.true_and]
        cases goT T <;> rfl
      · rw [if_neg (show ¬ nI i = 0 from fun z => h0 ((nI_eq (b := 0) (by omega) (by omega)).mp z)), decide_eq_false h0]; rfl
    · rw [if_neg h2, if_neg h2]
      by_cases h3 : ma T 2 i = 64
      · rw [if_pos h3, if_pos h3]
        by_cases h4 : ahT T i = 113
        · rw [if_pos h4, decide_eq_true h4]
        · rw [if_neg h4, decide_eq_false h4]
      · rw [if_neg h3, if_neg h3]
        by_cases h4 : ma T 2 i = 104
        · rw [if_pos h4, if_pos (Or.inl h4)]
        · rw [if_neg h4]
          by_cases h5 : ma T 2 i = 111
          · rw [if_pos h5, if_pos (Or.inr (Or.inl h5))]
          · rw [if_neg h5]
            by_cases h6 : ma T 2 i = 113
            · rw [if_pos h6, if_pos (Or.inr (Or.inr (Or.inl h6)))]
            · rw [if_neg h6]
              by_cases h7 : ma T 2 i = 115
              · rw [if_pos h7, if_pos (Or.inr (Or.inr (Or.inr (Or.inl h7))))]
              · rw [if_neg h7]
                by_cases h8 : ma T 2 i = 118
                · rw [if_pos h8, if_pos (Or.inr (Or.inr (Or.inr (Or.inr h8))))]
                · rw [if_neg h8, if_neg (fun z => by rcases z with z | z | z | z | z; exact h4 z; exact h5 z; exact h6 z; exact h7 z; exact h8 z)]
theorem x_mayGoOn {S : XS} {T : MS} (h : Rel S T) : fX3_mayGoOn S = some (goT T) := by
  have hn := h.1.1
  unfold fX3_mayGoOn goT
  rw [h.2.2.2.2.2.2.2.1, hn.1]
  by_cases h0 : nT T = 0
  · rw [h0, x_speaksAt_out h (by rw [h0]; exact m1_out), ob1_s]; rfl
  · rw [nI_m1 (by omega), x_speaksAt h (by omega), ob1_s, decide_eq_true (show 0 < nT T by omega), Bool.true_and]
theorem x_faultStep {S : XS} {T : MS} (h : Rel S T) {i : Nat} (hi : i < tT T) (hok : okT T i = true) (k : Bool × Bool × Int32 × XS → Option Int32) : bX4_firstFault_5 k (goT T) (decide (0 < qcT T i)) (nI i) S = k (goT T, decide (0 < qcT T (i + 1)), nI (i + 1), S) := by
  have ht := h.1.2.1
  unfold bX4_firstFault_5
  rw [h.2.2.2.2.2.1, ht.1, if_neg (nI_ge hi (by omega)), x_mayStand h hi, ob1_s, if_bi, if_pos hok, if_bid, x_codeAt h hi, ob1_s, nI_1]
  have ht1 : ma T 2 i = 113 → qcT T (i + 1) = qcT T i + 1 := fun z => cntN_t (decide_eq_true z)
  have hf1 : ma T 2 i ≠ 113 → qcT T (i + 1) = qcT T i := fun z => cntN_f (decide_eq_false z)
  by_cases h1 : 0 < qcT T i
  · rw [if_pos h1]
    have : 0 < qcT T (i + 1) := by
      by_cases z : ma T 2 i = 113
      · rw [ht1 z]; omega
      · rw [hf1 z]; exact h1
    rw [decide_eq_true this]
  · rw [if_neg h1]
    by_cases z : ma T 2 i = 113
    · rw [if_pos z, decide_eq_true (show 0 < qcT T (i + 1) by rw [ht1 z]; omega)]
    · rw [if_neg z, decide_eq_false (show ¬ 0 < qcT T (i + 1) by rw [hf1 z]; exact h1)]
theorem x_firstFault {S : XS} {T : MS} (h : Rel S T) : (∀ i, faultAt T i → fX4_firstFault (goT T) S = some (nI i)) ∧ (goodT T → fX4_firstFault (goT T) S = some (-9)) := by
  have ht := h.1.2.1
  have st : ∀ c, c ≤ tT T → (∀ j, j < c → okT T j = true) → ∀ Z, (∀ k, bX4_firstFault_5 k (goT T) (decide (0 < qcT T c)) (nI c) S = Z) → fX4_firstFault (goT T) S = Z := by
    intro c hc hok Z hZ
    unfold fX4_firstFault
    refine lp_go _ (fun j => (goT T, decide (0 < qcT T j), nI j, S)) Z c (by omega) ?_ ?_
    · intro j hj k
      exact x_faultStep h (by omega) (hok j hj) k
    · intro k
      exact hZ k
  have fin : ∀ k, bX4_firstFault_5 k (goT T) (decide (0 < qcT T (tT T))) (nI (tT T)) S = some (if ahT T (tT T) = 64 ∨ tT T = 0 ∨ (ma T 2 0 = 43 ∧ qcT T (tT T) = 0) then nI (tT T) else -9) := by
    intro k
    unfold bX4_firstFault_5
    rw [h.2.2.2.2.2.1, ht.1, if_pos (Int32.le_refl _), x_codeAhead h (Nat.le_refl _), ob1_s]
    have e96 : ∀ a b : Bool, bX4_firstFault_96 a b S = some (if tT T = 0 ∨ a = true ∨ b = true then nI (tT T) else -9) := by
      intro a b
      unfold bX4_firstFault_96
      rw [h.2.2.2.2.2.1, ht.1]
      by_cases h0 : tT T = 0
      · rw [if_pos (by rw [h0]; rfl), if_pos (Or.inl h0)]
      · rw [if_neg (show ¬ nI (tT T) = 0 from fun z => h0 ((nI_eq (b := 0) (by omega) (by omega)).mp z)), if_bi, if_bi]
        cases a
        · cases b
          · rw [if_neg (by decide), if_neg (by decide), if_neg (fun z => by rcases z with z | z | z; exact h0 z; cases z; cases z)]
          · rw [if_neg (by decide), if_pos rfl, if_pos (Or.inr (Or.inr rfl))]
        · rw [if_pos rfl, if_pos (Or.inr (Or.inl rfl))]
    have e75 : ∀ a : Bool, bX4_firstFault_75 (decide (0 < qcT T (tT T))) a S = some (if a = true ∨ tT T = 0 ∨ (ma T 2 0 = 43 ∧ qcT T (tT T) = 0) then nI (tT T) else -9) := by
      intro a
      unfold bX4_firstFault_75
      by_cases h0 : tT T = 0
      · rw [show fX4_codeAt 0 S = some (-1) from x_codeAt_out h (fun z => by rw [h0] at z; exact absurd z.2 (by decide)), ob1_s, if_neg (by decide), e96, if_pos (Or.inl h0), if_pos (Or.inr (Or.inl h0))]
      · rw [show fX4_codeAt 0 S = some (ma T 2 0) from x_codeAt h (i := 0) (by omega), ob1_s, if_bid, e96, e96]
        by_cases h43 : ma T 2 0 = 43
        · rw [if_pos h43]
          by_cases hq : 0 < qcT T (tT T)
          · rw [if_pos hq]
            cases a
            · rw [if_neg (fun z => by rcases z with z | z | z; exact h0 z; cases z; cases z), if_neg (fun z => by rcases z with z | z | z; cases z; exact h0 z; omega)]
            · rw [if_pos (Or.inr (Or.inl rfl)), if_pos (Or.inl rfl)]
          · rw [if_neg hq, if_pos (Or.inr (Or.inr rfl)), if_pos (Or.inr (Or.inr ⟨h43, by omega⟩))]
        · rw [if_neg h43]
          cases a
          · rw [if_neg (fun z => by rcases z with z | z | z; exact h0 z; cases z; cases z), if_neg (fun z => by rcases z with z | z | z; cases z; exact h0 z; exact h43 z.1)]
          · rw [if_pos (Or.inr (Or.inl rfl)), if_pos (Or.inl rfl)]
    rw [e75, e75]
    by_cases h64 : ahT T (tT T) = 64
    · rw [if_pos h64, if_pos (Or.inl rfl), if_pos (Or.inl h64)]
    · rw [if_neg h64]
      by_cases hb : tT T = 0 ∨ (ma T 2 0 = 43 ∧ qcT T (tT T) = 0)
      · rw [if_pos (Or.inr hb), if_pos (Or.inr hb)]
      · rw [if_neg (fun z => by rcases z with z | z; cases z; exact hb z), if_neg (fun z => by rcases z with z | z; exact h64 z; exact hb z)]
  constructor
  · rintro i ⟨hi, hok, hend⟩
    rcases hend with ⟨hlt, hno⟩ | ⟨rfl, hbad⟩
    · refine st i hi hok _ (fun k => ?_)
      unfold bX4_firstFault_5
      rw [h.2.2.2.2.2.1, ht.1, if_neg (nI_ge hlt (by omega)), x_mayStand h hlt, ob1_s, if_bi, if_neg (by rw [hno]; decide)]
    · refine st (tT T) hi hok _ (fun k => ?_)
      rw [fin, if_pos]
      exact hbad
  · rintro ⟨hok, h64, hbad⟩
    refine st (tT T) (Nat.le_refl _) hok _ (fun k => ?_)
    rw [fin, if_neg]
    rintro (z | z)
    · exact h64 z
    · exact hbad z
