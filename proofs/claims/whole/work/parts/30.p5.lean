/-! the class's state beside the reference's, and its readers -/
def anyN (P : Nat → Bool) : Nat → Bool
  | 0 => false
  | j + 1 => anyN P j || P j
theorem anyN_iff (P : Nat → Bool) (j : Nat) : anyN P j = true ↔ ∃ i, i < j ∧ P i = true := by
  induction j with
  | zero => simp [anyN]
  | succ j ih =>
    simp only [anyN, Bool.or_eq_true, ih]
    constructor
    · rintro (⟨i, h1, h2⟩ | h)
      · exact ⟨i, by omega, h2⟩
      · exact ⟨j, by omega, h⟩
    · rintro ⟨i, h1, h2⟩
      rcases Nat.lt_or_ge i j with h | h
      · exact Or.inl ⟨i, h, h2⟩
      · have : i = j := by omega
        subst this
        exact Or.inr h2
def andN (f : Nat → Int32) : Nat → Int32
  | 0 => 255
  | j + 1 => andN f j &&& f j
theorem tb_andN (f : Nat → Int32) (j : Nat) {p : Nat} (hp : p < 8) : tb (andN f j) p = true ↔ ∀ i, i < j → tb (f i) p = true := by
  induction j with
  | zero => simp [andN, tb_255, hp]
  | succ j ih =>
    simp only [andN, tb_and, Bool.and_eq_true, ih]
    constructor
    · rintro ⟨h1, h2⟩ i hi
      rcases Nat.lt_or_ge i j with h | h
      · exact h1 i h
      · have : i = j := by omega
        subst this
        exact h2
    · intro h
      exact ⟨fun i hi => h i (by omega), h j (by omega)⟩
def bitw (w : Int32) : Int32 := if w = -9 then 0 else (1 : Int32) <<< (w &&& 31)
def whoN (T : MS) (k i : Nat) : Nat := (whoT T k (nI i)).toNatClampNeg
def meT (T : MS) (k : Nat) : Int32 := orN (fun i => bitw (whT T k i)) (cT T k)
def stT (T : MS) (k : Nat) : Int32 := orN (fun i => if itT T k i = 0 then bitw (whT T k i) else 0) (cT T k)
def vnT (T : MS) (k : Nat) : Int32 := andN (fun i => if cnsT T k (nI i) = true ∧ itT T k (whoN T k i) = 5 then bitw (whT T k (whoN T k i)) else 255) (cT T k)
def heT (T : MS) (k : Nat) : Bool := anyN (fun i => cnsT T k (nI i) && decide (itT T k (whoN T k i) = 3)) (cT T k)
def shT (T : MS) (k : Nat) : Bool := anyN (fun i => cnsT T k (nI i) && decide (itT T k (whoN T k i) = 4)) (cT T k)
def doT (T : MS) (k : Nat) : Int32 := if vcT T k = 0 ∧ kdT T k 0 = 5 ∧ kdT T k 1 = 2 then bitw (whT T k 0) else 255
def parR (S : XS) (T : MS) (k : Nat) : Prop :=
  xp S k 2 = ma T 3 k ∧ xp S k 3 = ma T 6 k ∧ xp S k 4 = ma T 7 k ∧ xp S k 5 = ma T 8 k ∧ xp S k 6 = nI (quT T k) ∧ xp S k 7 = meT T k ∧
  xp S k 8 = stT T k ∧ xp S k 9 = nI (vcT T k) ∧ xp S k 10 = vnT T k ∧ xp S k 11 = bi (heT T k) ∧ xp S k 12 = bi (shT T k) ∧ xp S k 13 = doT T k
def XR (S : XS) (T : MS) : Prop :=
  xi S 0 = mi T 0 ∧ xi S 1 = mi T 1 ∧ xi S 2 = thT T ∧ (∀ p, p < 8 → ma T 1 p ≠ -9 → xa S 2 p = ma T 1 p) ∧
  xi S 3 = mi T 2 ∧ (∀ j, j < tT T → xa S 4 j = ma T 2 j) ∧ xi S 4 = mi T 3 ∧ (∀ k, k < nT T → parR S T k) ∧ xp S 16 6 = 0
def Rel (S : XS) (T : MS) : Prop := wfM T ∧ XR S T
def corX (S S' : XS) : Prop := (∀ k, k ≤ 4 → xi S' k = xi S k) ∧ xa S' 2 = xa S 2 ∧ xa S' 4 = xa S 4 ∧ S'.2.2.2 = S.2.2.2
theorem corX_rfl (S : XS) : corX S S := ⟨fun _ _ => rfl, rfl, rfl, rfl⟩
theorem corX_trans {S S' S'' : XS} (h : corX S S') (h2 : corX S' S'') : corX S S'' := ⟨fun k hk => (h2.1 k hk).trans (h.1 k hk), h2.2.1.trans h.2.1, h2.2.2.1.trans h.2.2.1, h2.2.2.2.trans h.2.2.2⟩
theorem corX_i (S : XS) (v : Int32) : corX S (xiW S 5 v) := ⟨fun k hk => by
  show va_up S.1 5 v k = S.1 k
  unfold va_up
  rw [if_neg (by omega)], rfl, rfl, rfl⟩
theorem corX_a (S : XS) {a : Nat} (ha : 4 < a) (j : Nat) (v : Int32) : corX S (xaW S a j v) := ⟨fun _ _ => rfl, by
  show va_up S.2.1 a _ 2 = S.2.1 2
  unfold va_up
  rw [if_neg (by omega)], by
  show va_up S.2.1 a _ 4 = S.2.1 4
  unfold va_up
  rw [if_neg (by omega)], rfl⟩
theorem corX_l (S : XS) (a j : Nat) (v : Int64) : corX S (xlW S a j v) := ⟨fun _ _ => rfl, rfl, rfl, rfl⟩
theorem corX_XR {S S' : XS} {T : MS} (h : corX S S') (hx : XR S T) : XR S' T := by
  obtain ⟨h1, h2, h3, h4, h5, h6, h7, h8, h9⟩ := hx
  have hp : xp S' = xp S := by funext i k; unfold xp; rw [h.2.2.2]
  unfold XR parR
  rw [h.1 0 (by omega), h.1 1 (by omega), h.1 2 (by omega), h.1 3 (by omega), h.1 4 (by omega), h.2.1, h.2.2.1, hp]
  exact ⟨h1, h2, h3, h4, h5, h6, h7, h8, h9⟩
theorem cor_XR {S : XS} {T T' : MS} (h : cor T T') (hx : XR S T) : XR S T' := by
  have ht : tT T' = tT T := by unfold tT; rw [h.1 2 (by omega)]
  have hw : whoN T' = whoN T := by funext k i; unfold whoN; rw [cor_who h]
  have q1 : quT T' = quT T := by funext k; unfold quT; rw [cor_c h, cor_it h]
  have q2 : meT T' = meT T := by funext k; unfold meT; rw [cor_c h, cor_wh h]
  have q3 : stT T' = stT T := by funext k; unfold stT; rw [cor_c h, cor_wh h, cor_it h]
  have q4 : vcT T' = vcT T := by funext k; unfold vcT; rw [cor_c h, cor_cns h]
  have q5 : vnT T' = vnT T := by funext k; unfold vnT; rw [cor_c h, cor_cns h, cor_it h, cor_wh h, hw]
  have q6 : heT T' = heT T := by funext k; unfold heT; rw [cor_c h, cor_cns h, cor_it h, hw]
  have q7 : shT T' = shT T := by funext k; unfold shT; rw [cor_c h, cor_cns h, cor_it h, hw]
  have q8 : doT T' = doT T := by funext k; unfold doT; rw [q4, cor_kd h, cor_wh h]
  obtain ⟨h1, h2, h3, h4, h5, h6, h7, h8, h9⟩ := hx
  unfold XR parR
  rw [h.1 0 (by omega), h.1 1 (by omega), h.1 2 (by omega), h.1 3 (by omega), cor_th h, ht, cor_n h, q1, q2, q3, q4, q5, q6, q7, q8, h.2 1 (by omega), h.2 2 (by omega), h.2 3 (by omega), h.2 6 (by omega), h.2 7 (by omega), h.2 8 (by omega)]
  exact ⟨h1, h2, h3, h4, h5, h6, h7, h8, h9⟩
theorem Rel_cor {S S' : XS} {T T' : MS} (h : Rel S T) (h1 : corX S S') (h2 : cor T T') : Rel S' T' := ⟨cor_wf h2 h.1, cor_XR h2 (corX_XR h1 h.2)⟩
theorem x_within (a b : Int32) : fX5_isWithin a b = decide (0 ≤ a ∧ a < b) := by
  unfold fX5_isWithin
  have l1 := Int32.lt_iff_toInt_lt (x := a) (y := 0)
  have l2 := Int32.le_iff_toInt_le (x := b) (y := a)
  have l3 := Int32.le_iff_toInt_le (x := 0) (y := a)
  have l4 := Int32.lt_iff_toInt_lt (x := a) (y := b)
  by_cases h1 : a < 0
  · rw [if_pos h1]
    symm; rw [decide_eq_false_iff_not]
    intro h; have := l1.mp h1; have := l3.mp h.1; omega
  · rw [if_neg h1]
    by_cases h2 : b ≤ a
    · rw [if_pos h2]
      symm; rw [decide_eq_false_iff_not]
      intro h; have := l2.mp h2; have := l4.mp h.2; omega
    · rw [if_neg h2]
      symm; rw [decide_eq_true_iff]
      constructor
      · apply l3.mpr
        have : ¬ a.toInt < (0 : Int32).toInt := fun h => h1 (l1.mpr h)
        omega
      · apply l4.mpr
        have : ¬ b.toInt ≤ a.toInt := fun h => h2 (l2.mpr h)
        omega
theorem lt_nI {x : Int32} {n : Nat} (hn : n < 2 ^ 31) : (0 ≤ x ∧ x < nI n) ↔ ∃ j, j < n ∧ x = nI j := by
  constructor
  · rintro ⟨h1, h2⟩
    have a := Int32.le_iff_toInt_le.mp h1
    have b := Int32.lt_iff_toInt_lt.mp h2
    rw [nI_toInt hn] at b
    exact inb_ex hn (show inb x n from vp_in_iff.mpr ⟨a, b⟩)
  · rintro ⟨j, hj, rfl⟩
    exact ⟨nI_pos' (by omega), nI_lt hj hn⟩
theorem lt8 (x : Int32) : (0 ≤ x ∧ x < 8) ↔ (0 ≤ x ∧ x ≤ 7) := by
  have h1 := lt_nI (x := x) (n := 8) (by omega)
  have h2 := in8_iff x
  rw [h2]
  exact h1
theorem x_bitOf {p : Nat} (hp : p < 8) : fX5_bitOf (nI p) = (1 : Int32) <<< (nI p &&& 31) := by
  unfold fX5_bitOf
  rw [if_neg (nI_pos (by omega)), if_neg (ge8n hp)]
theorem x_bitOf_out {x : Int32} (h : ¬ (0 ≤ x ∧ x ≤ 7)) : fX5_bitOf x = 0 := by
  unfold fX5_bitOf
  by_cases h1 : x < 0
  · rw [if_pos h1]
  · rw [if_neg h1]
    have : (8 : Int32) ≤ x := by
      apply Int32.le_iff_toInt_le.mpr
      have a : ¬ x.toInt < (0 : Int32).toInt := fun q => h1 (Int32.lt_iff_toInt_lt.mpr q)
      have b : ¬ ((0 : Int32).toInt ≤ x.toInt ∧ x.toInt ≤ (7 : Int32).toInt) := fun q => h ⟨Int32.le_iff_toInt_le.mpr q.1, Int32.le_iff_toInt_le.mpr q.2⟩
      have c : (8 : Int32).toInt = 8 := rfl
      have d : (7 : Int32).toInt = 7 := rfl
      have e : (0 : Int32).toInt = 0 := rfl
      omega
    rw [if_pos this]
theorem and_bit {x : Int32} {p : Nat} (hp : p < 32) : (x &&& ((1 : Int32) <<< (nI p &&& 31)) = 0) ↔ tb x p = false := by
  constructor
  · intro h
    have := congrArg (fun z => tb z p) h
    simp only [tb_and, tb_sh hp, tb_0, decide_true, Bool.and_true] at this
    exact this
  · intro h
    apply tb_ext
    intro q hq
    rw [tb_and, tb_sh hp, tb_0]
    by_cases e : q = p
    · subst e; rw [h]; rfl
    · simp [e]
theorem and_zero' (x : Int32) : x &&& 0 = 0 := by apply tb_ext; intro p _; rw [tb_and, tb_0]; simp
theorem x_isThere {S : XS} {T : MS} (h : Rel S T) (x : Int32) : fX2_isThere x S = isTh T x := by
  unfold fX2_isThere
  rw [h.2.2.2.1]
  by_cases hx : 0 ≤ x ∧ x ≤ 7
  · obtain ⟨p, hp, rfl⟩ := (in8_iff x).mp hx
    rw [x_bitOf hp, isTh_nI T hp]
    cases h1 : tb (thT T) p
    · rw [if_pos ((and_bit (by omega)).mpr h1)]
    · rw [if_neg (fun q => by rw [(and_bit (by omega)).mp q] at h1; cases h1)]
  · rw [x_bitOf_out hx, isTh_out T hx, and_zero', if_pos rfl]
theorem x_par {S : XS} {T : MS} (h : Rel S T) {k : Nat} (hk : k < nT T) : fX3_paragraphAt (nI k) S = some k := by
  have hn := h.1.1
  unfold fX3_paragraphAt fX3_holds
  rw [h.2.2.2.2.2.2.2.1, hn.1, if_neg (nI_pos (by omega)), if_neg (nI_ge hk (by omega)), if_neg (by decide), if_neg (show ¬ (16 : Int32) ≤ nI k from nI_ge (b := 16) (by omega) (by omega)), ck_in (inb_nI (by omega) (by decide)), cl_nI (by omega)]
theorem x_par_out {S : XS} {T : MS} (h : Rel S T) {x : Int32} (hx : ¬ (0 ≤ x ∧ x < nI (nT T))) : fX3_paragraphAt x S = some 16 := by
  have hn := h.1.1
  unfold fX3_paragraphAt fX3_holds
  rw [h.2.2.2.2.2.2.2.1, hn.1]
  by_cases h1 : x < 0
  · rw [if_pos h1]; rfl
  · rw [if_neg h1]
    have : nI (nT T) ≤ x := by
      apply Int32.le_iff_toInt_le.mpr
      have a : ¬ x.toInt < (0 : Int32).toInt := fun q => h1 (Int32.lt_iff_toInt_lt.mpr q)
      have b : ¬ ((0 : Int32).toInt ≤ x.toInt ∧ x.toInt < (nI (nT T)).toInt) := fun q => hx ⟨Int32.le_iff_toInt_le.mpr q.1, Int32.lt_iff_toInt_lt.mpr q.2⟩
      omega
    rw [if_pos this]; rfl
theorem qu_le {T : MS} {k : Nat} (h : rowOk T k) : quT T k ≤ 12 := Nat.le_trans (cntN_le _ _) h.1.2
theorem x_speaks {S : XS} {T : MS} (h : Rel S T) {k : Nat} (hk : k < nT T) : fX1_speaks k S = some (spT T k) := by
  have hn := h.1.1
  have hr := (h.1.2.2.2.2.2 k hk).1
  have hq := qu_le hr
  unfold fX1_speaks
  rw [if_pos (by omega), (h.2.2.2.2.2.2.2.2.1 k hk).2.2.2.2.1]
  unfold spT
  by_cases h0 : 0 < quT T k
  · rw [if_neg (nI_nle h0 (by omega))]; simp [h0]
  · have : quT T k = 0 := by omega
    rw [this, if_pos (by decide)]; rfl
theorem x_speaksAt {S : XS} {T : MS} (h : Rel S T) {k : Nat} (hk : k < nT T) : fX3_speaksAt (nI k) S = some (spT T k) := by
  unfold fX3_speaksAt
  rw [x_par h hk, ob1_s, x_speaks h hk, ob1_s]
theorem x_blank {S : XS} {T : MS} (h : Rel S T) : fX1_speaks 16 S = some false := by
  unfold fX1_speaks
  rw [if_pos (by omega), h.2.2.2.2.2.2.2.2.2, if_pos (by decide)]
theorem x_speaksAt_out {S : XS} {T : MS} (h : Rel S T) {x : Int32} (hx : ¬ (0 ≤ x ∧ x < nI (nT T))) : fX3_speaksAt x S = some false := by
  unfold fX3_speaksAt
  rw [x_par_out h hx, ob1_s, x_blank h, ob1_s]
