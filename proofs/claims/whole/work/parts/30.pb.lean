/-! ways: the numbers -/
def sumN (g : Nat → Nat) : Nat → Nat
  | 0 => 0
  | j + 1 => sumN g j + g j
theorem sumN_cong {g h : Nat → Nat} (j : Nat) (e : ∀ i, i < j → g i = h i) : sumN g j = sumN h j := by
  induction j with
  | zero => rfl
  | succ j ih => simp only [sumN]; rw [ih (fun i hi => e i (by omega)), e j (by omega)]
theorem le_sumN (g : Nat → Nat) {i j : Nat} (h : i < j) : g i ≤ sumN g j := by
  induction j with
  | zero => omega
  | succ j ih =>
    simp only [sumN]
    by_cases e : i = j
    · subst e; omega
    · have := ih (by omega); omega
theorem sumN_le {g : Nat → Nat} {B : Nat} (j : Nat) (h : ∀ i, i < j → g i ≤ B) : sumN g j ≤ j * B := by
  induction j with
  | zero => simp [sumN]
  | succ j ih =>
    simp only [sumN]
    have h1 := ih (fun i hi => h i (by omega))
    have h2 := h j (by omega)
    rw [Nat.succ_mul]; omega
theorem sumN_mono {g h : Nat → Nat} (j : Nat) (e : ∀ i, i < j → g i ≤ h i) : sumN g j ≤ sumN h j := by
  induction j with
  | zero => exact Nat.le_refl _
  | succ j ih => simp only [sumN]; have := ih (fun i hi => e i (by omega)); have := e j (by omega); omega
def maB (l : Int32) (p q : Nat) : Bool := if l = 0 then true else if l = 1 then decide (p = q) else decide (p ≠ q)
def fitN (l : Int32) (s a : Nat) : Nat := if l = 1 then s else if l = 2 then a - s else a
theorem sum_one (g : Nat → Nat) (p j : Nat) : sumN (fun q => if decide (p = q) = true then g q else 0) j = if p < j then g p else 0 := by
  induction j with
  | zero => simp [sumN]
  | succ j ih =>
    simp only [sumN]
    rw [ih]
    by_cases h1 : p = j
    · subst h1; simp
    · by_cases h2 : p < j
      · simp [h1, h2, show p < j + 1 by omega]
      · simp [h1, h2, show ¬ p < j + 1 by omega]
theorem sum_but (g : Nat → Nat) (p j : Nat) : sumN (fun q => if decide (p ≠ q) = true then g q else 0) j + (if p < j then g p else 0) = sumN g j := by
  induction j with
  | zero => simp [sumN]
  | succ j ih =>
    simp only [sumN]
    by_cases h1 : p = j
    · subst h1
      simp at ih ⊢
      exact ih
    · by_cases h2 : p < j
      · simp [h1, h2, show p < j + 1 by omega] at ih ⊢; omega
      · simp [h1, h2, show ¬ p < j + 1 by omega] at ih ⊢; omega
theorem sum_may (g : Nat → Nat) {l : Int32} (hl : l = 0 ∨ l = 1 ∨ l = 2) {p : Nat} (hp : p < 8) : sumN (fun q => if maB l p q = true then g q else 0) 8 = fitN l (g p) (sumN g 8) := by
  rcases hl with rfl | rfl | rfl
  · have : (fun q => if maB 0 p q = true then g q else 0) = g := by funext q; rfl
    rw [this]; rfl
  · have : (fun q => if maB 1 p q = true then g q else 0) = (fun q => if decide (p = q) = true then g q else 0) := by funext q; rfl
    rw [this, sum_one, if_pos hp]; rfl
  · have : (fun q => if maB 2 p q = true then g q else 0) = (fun q => if decide (p ≠ q) = true then g q else 0) := by funext q; rfl
    have h2 := sum_but g p 8
    rw [if_pos hp] at h2
    rw [this]
    show _ = sumN g 8 - g p
    omega
/-- ways by steps: a, who may stand at a step; l, the link of a step with that ahead of it -/
def gW (a : Nat → Nat → Bool) (l : Nat → Int32) : Nat → Nat → Nat
  | 0, p => if a 0 p = true then 1 else 0
  | i + 1, p => if a (i + 1) p = true then sumN (fun q => if maB (l (i + 1)) p q = true then gW a l i q else 0) 8 else 0
def tW (a : Nat → Nat → Bool) (l : Nat → Int32) : Nat → Nat
  | 0 => 1
  | i + 1 => sumN (gW a l i) 8
theorem gW_le (a : Nat → Nat → Bool) (l : Nat → Int32) (i p : Nat) : gW a l i p ≤ 8 ^ i := by
  induction i generalizing p with
  | zero => simp only [gW]; split <;> simp
  | succ i ih =>
    simp only [gW]
    split
    · have : sumN (fun q => if maB (l (i + 1)) p q = true then gW a l i q else 0) 8 ≤ 8 * 8 ^ i := sumN_le 8 (fun q _ => by split; exact ih q; exact Nat.zero_le _)
      rw [Nat.pow_succ]; omega
    · exact Nat.zero_le _
theorem tW_le (a : Nat → Nat → Bool) (l : Nat → Int32) (i : Nat) : tW a l i ≤ 8 ^ i := by
  cases i with
  | zero => exact Nat.le_refl _
  | succ i =>
    have : sumN (gW a l i) 8 ≤ 8 * 8 ^ i := sumN_le 8 (fun q _ => gW_le a l i q)
    simp only [tW]
    rw [Nat.pow_succ]; omega
/-- once nobody is left, nobody is -/
theorem tW_zero (a : Nat → Nat → Bool) (l : Nat → Int32) {i : Nat} (h : tW a l i = 0) : tW a l (i + 1) = 0 := by
  cases i with
  | zero => cases h
  | succ i =>
    simp only [tW] at h ⊢
    have h0 : ∀ q, q < 8 → gW a l i q = 0 := fun q hq => by have := le_sumN (gW a l i) hq; omega
    have : sumN (gW a l (i + 1)) 8 = sumN (fun _ => 0) 8 := sumN_cong 8 (fun p _ => by
      simp only [gW]
      split
      · rw [show (0 : Nat) = sumN (fun _ => 0) 8 from rfl]
        exact sumN_cong 8 (fun q hq => by split; exact h0 q hq; rfl)
      · rfl)
    rw [this]; rfl
theorem tW_zero' (a : Nat → Nat → Bool) (l : Nat → Int32) {i j : Nat} (hij : i ≤ j) (h : tW a l i = 0) : tW a l j = 0 := by
  induction j with
  | zero => have : i = 0 := by omega
            subst this; exact h
  | succ j ih =>
    by_cases e : i = j + 1
    · subst e; exact h
    · exact tW_zero a l (ih (by omega))
def alB (sp : Nat → Bool) (o : Nat → Int32) (k p : Nat) : Bool := if sp k = true then tb (o k) p else decide (p = 0)
/-- what holds of links, for all the rest -/
def lkOk (n : Nat) (sp : Nat → Bool) (lk : Nat → Int32) : Prop := (∀ k, lk k = 0 ∨ lk k = 1 ∨ lk k = 2) ∧ (∀ k, n ≤ k → lk k = 0) ∧ (∀ k, sp k = false → lk k = 0 ∧ lk (k + 1) = 0) ∧ lk 0 = 0
theorem lkT_ok (T : MS) : lkOk (nT T) (spT T) (lkT T) := by
  refine ⟨lk_cases T, fun k hk => ?_, fun k hk => ⟨?_, ?_⟩, ?_⟩
  · unfold lkT; rw [if_neg (fun q => by have := q.2.1; omega)]
  · unfold lkT; rw [if_neg (fun q => by rw [hk] at q; exact absurd q.2.2.1 (by simp))]
  · unfold lkT; rw [if_neg (fun q => by rw [show k + 1 - 1 = k from rfl, hk] at q; exact absurd q.2.2.2 (by simp))]
  · unfold lkT; rw [if_neg (by omega)]
/-- the way up from b, and the way down from the last of n -/
def upG (sp : Nat → Bool) (o lk : Nat → Int32) (b : Nat) : Nat → Nat → Nat := gW (fun i => alB sp o (b + i)) (fun i => lk (b + i))
def upT (sp : Nat → Bool) (o lk : Nat → Int32) (b : Nat) : Nat → Nat := tW (fun i => alB sp o (b + i)) (fun i => lk (b + i))
def dnG (n : Nat) (sp : Nat → Bool) (o lk : Nat → Int32) : Nat → Nat → Nat := gW (fun i => alB sp o (n - 1 - i)) (fun i => lk (n - i))
def dnT (n : Nat) (sp : Nat → Bool) (o lk : Nat → Int32) : Nat → Nat := tW (fun i => alB sp o (n - 1 - i)) (fun i => lk (n - i))
theorem lN_0 : lN 0 = 0 := rfl
theorem lN_1' : lN 1 = 1 := rfl
theorem m_may {l : Int32} (hl : l = 0 ∨ l = 1 ∨ l = 2) {p q : Nat} (hp : p < 8) (hq : q < 8) : fX6_may l (nI p) (nI q) = maB l p q := by
  have he : (nI p = nI q) ↔ p = q := nI_eq (by omega) (by omega)
  unfold fX6_may bX6_may_14 bX6_may_24 maB
  rcases hl with rfl | rfl | rfl
  · rfl
  · by_cases e : p = q
    · rw [if_neg (by decide), if_pos rfl, if_pos (he.mpr e)]; simp [e]
    · rw [if_neg (by decide), if_pos rfl, if_neg (fun z => e (he.mp z))]; simp [e, bi]
  · by_cases e : p = q
    · rw [if_neg (by decide), if_neg (by decide), if_pos (he.mpr e)]; simp [e, bi]
    · rw [if_neg (by decide), if_neg (by decide), if_neg (fun z => e (he.mp z))]; simp [e, bi]
def hasOwn (T A : MS) : Prop := cor T A ∧ ∀ k, k < nT T → ma A 9 k = oT T k
theorem m_isAllowed {T A : MS} (h : wfM T) (hA : hasOwn T A) {k p : Nat} (hk : k < nT T) (hp : p < 8) : fX6_isAllowed (nI p) (nI k) A = some (alB (spT T) (oT T) k p) := by
  have hn := h.1
  have hr := (cor_wf hA.1 h).2.2.2.2.2 k (by rw [cor_n hA.1]; exact hk)
  unfold fX6_isAllowed alB
  rw [m_speaks A (by omega) hr.1, ob1_s, if_bi, ck_in (inb_nI (by omega) (by decide)), cl_nI (by omega), hA.2 k hk, has_nI _ (by omega), cor_sp hA.1]
  cases spT T k
  · rw [if_neg (show ¬ false = true by simp), if_neg (show ¬ false = true by simp)]
    by_cases e : p = 0
    · subst e; rfl
    · rw [if_neg (show ¬ nI p = 0 from fun q => e ((nI_eq (b := 0) (by omega) (by omega)).mp q))]; simp [e]
  · rfl
theorem m_lk {T A : MS} (h : wfM T) (hA : hasOwn T A) {k : Nat} (hk : k ≤ 17) : fX6_linkAt (nI k) A = some (lkT T k) := by
  rw [m_linkAt A (cor_wf hA.1 h) hk, cor_lk hA.1]
theorem updL_s (f : Nat → Int64) (k : Nat) (x : Int64) : vp_updL f k x k = x := pk_uLs
theorem updL_n (f : Nat → Int64) {k j : Nat} (x : Int64) (h : j ≠ k) : vp_updL f k x j = f j := pk_uLn h
theorem x8 {k j : Nat} : (8 : Int32) * nI k + nI j = nI (8 * k + j) := by rw [show (8 : Int32) = nI 8 from rfl, pk_mul, nI_add]
