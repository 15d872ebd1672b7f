/-! narrowing: the numbers, and the reference -/
theorem lp_inv {α β : Type} (F : (α → Option β) → α → Option β) (Inv : Nat → α → Prop) (Post : Option β → Prop) (c : Nat) (hstep : ∀ j a, j < c → Inv j a → ∃ a', Inv (j + 1) a' ∧ ∀ k, F k a = k a') (hend : ∀ a, Inv c a → ∃ z, Post z ∧ ∀ k, F k a = z) : ∀ (n j : Nat) (a : α), j ≤ c → c < j + n → Inv j a → Post (lp F n a) := by
  intro n
  induction n with
  | zero => intro j a h1 h2; omega
  | succ n ih =>
    intro j a h1 h2 hI
    rw [lp_succ]
    rcases Nat.lt_or_ge j c with h | h
    · obtain ⟨a', hI', hk⟩ := hstep j a h hI
      rw [hk]
      exact ih (j + 1) a' (by omega) (by omega) hI'
    · have : j = c := by omega
      subst this
      obtain ⟨z, hz, hk⟩ := hend a hI
      rw [hk]
      exact hz
theorem lp_in {α β : Type} (F : (α → Option β) → α → Option β) (Inv : Nat → α → Prop) (Post : Option β → Prop) (c : Nat) (hc : c < 1000) (a : α) (h0 : Inv 0 a) (hstep : ∀ j a, j < c → Inv j a → ∃ a', Inv (j + 1) a' ∧ ∀ k, F k a = k a') (hend : ∀ a, Inv c a → ∃ z, Post z ∧ ∀ k, F k a = z) : Post (lp F FU a) := lp_inv F Inv Post c hstep hend FU 0 a (Nat.zero_le _) (by unfold FU; omega) h0
def sz (x : Int32) : Nat := cntN (fun p => tb x p) 8
theorem m_size (x : Int32) : fX6_size x = some (nI (sz x)) := by
  unfold fX6_size sz
  refine lp_go _ (fun j => (x, nI (cntN (fun p => tb x p) j), nI j)) _ 8 (by omega) ?_ ?_
  · intro j hj k0
    dsimp only
    unfold bX6_size_4
    rw [if_neg (ge8n hj), and1_01, tb_shr (by omega), bnd_s]
    simp only [cntN, nI_1]
    by_cases hb : tb x j = true
    · rw [if_pos hb, hb, bi_t, nI_1]
    · rw [if_neg hb, show tb x j = false from by simpa using hb, bi_f, Int32.add_zero]
      rfl
  · intro k0
    dsimp only
    unfold bX6_size_4
    rw [if_pos ge8]
theorem x_bc0 : ∀ v, v < 256 → fJ6_bitCount_0f7a4 (nI v) = nI (sz (nI v)) := by decide +kernel
theorem x_bc {x : Int32} (h : S8 x) : fJ6_bitCount_0f7a4 x = nI (sz x) := by
  obtain ⟨v, hv, rfl⟩ := h.nat
  exact x_bc0 v hv
theorem cntN_mono {P Q : Nat → Bool} (j : Nat) (h : ∀ i, i < j → P i = true → Q i = true) : cntN P j ≤ cntN Q j := by
  induction j with
  | zero => exact Nat.le_refl _
  | succ j ih =>
    simp only [cntN]
    have h1 := ih (fun i hi => h i (by omega))
    have h2 := h j (by omega)
    cases hp : P j
    · simp; omega
    · rw [h2 hp]; simp; omega
theorem cntN_lt {P Q : Nat → Bool} (j : Nat) (h : ∀ i, i < j → P i = true → Q i = true) (hx : ∃ i, i < j ∧ P i = false ∧ Q i = true) : cntN P j < cntN Q j := by
  induction j with
  | zero => obtain ⟨i, hi, _⟩ := hx; omega
  | succ j ih =>
    simp only [cntN]
    obtain ⟨i, hi, hp, hq⟩ := hx
    by_cases e : i = j
    · subst e
      have := cntN_mono i (fun a ha => h a (by omega))
      rw [hp, hq]; simp; omega
    · have h1 := ih (fun a ha => h a (by omega)) ⟨i, by omega, hp, hq⟩
      have h2 := h j (by omega)
      cases hp : P j
      · simp; omega
      · rw [h2 hp]; simp; omega
theorem sz_le (x : Int32) : sz x ≤ 8 := cntN_le _ _
def sub8 (x y : Int32) : Prop := ∀ p, tb x p = true → tb y p = true
theorem sz_mono {x y : Int32} (h : sub8 x y) : sz x ≤ sz y := cntN_mono 8 (fun p _ => h p)
theorem sz_lt {x y : Int32} (hx : S8 x) (hy : S8 y) (h : sub8 x y) (hne : x ≠ y) : sz x < sz y := by
  refine cntN_lt 8 (fun p _ => h p) ?_
  apply Classical.byContradiction
  intro hno
  apply hne
  refine S8.ext hx hy (fun p hp => ?_)
  cases h1 : tb x p
  · cases h2 : tb y p
    · rfl
    · exact absurd ⟨p, hp, h1, h2⟩ hno
  · exact (h p h1).symm
/-- one set by another that is linked with it -/
def byF (s l o : Int32) : Int32 := if l = 1 then s &&& o else if l = 2 ∧ sz o = 1 then s &&& (o ^^^ (-1)) else s
theorem m_by (s l o : Int32) (T : MS) : fX6_by s l o T = some (byF s l o) := by
  unfold fX6_by byF
  rw [m_size, ob1_s]
  have hs := sz_le o
  by_cases h1 : l = 1
  · rw [if_pos h1, if_pos h1]
  · rw [if_neg h1, if_neg h1]
    by_cases h2 : l = 2
    · rw [if_pos h2]
      by_cases h3 : sz o = 1
      · rw [if_pos (by rw [h3]; rfl), if_pos ⟨h2, h3⟩]
      · rw [if_neg (show ¬ nI (sz o) = 1 from fun q => h3 ((nI_eq (b := 1) (by omega) (by omega)).mp q)), if_neg (fun q => h3 q.2)]
    · rw [if_neg h2, if_neg (fun q => h2 q.1)]
theorem byF_sub (s l o : Int32) : sub8 (byF s l o) s := by
  intro p h
  unfold byF at h
  by_cases h1 : l = 1
  · rw [if_pos h1, tb_and] at h; simp at h; exact h.1
  · rw [if_neg h1] at h
    by_cases h2 : l = 2 ∧ sz o = 1
    · rw [if_pos h2, tb_and] at h; simp at h; exact h.1
    · rw [if_neg h2] at h; exact h
theorem S8.sub {x y : Int32} (hy : S8 y) (h : sub8 x y) : S8 x := fun p hp => by
  cases h1 : tb x p
  · rfl
  · have := h p h1
    rw [hy p hp] at this; cases this
/-- a round: all sets by their neighbours -/
def nst (n : Nat) (lk : Nat → Int32) (f : Nat → Int32) (k : Nat) : Int32 := byF (byF (f k) (lk k) (if 0 < k then f (k - 1) else 0)) (lk (k + 1)) (if k + 1 < n then f (k + 1) else 0)
theorem nst_sub (n : Nat) (lk f : Nat → Int32) (k : Nat) : sub8 (nst n lk f k) (f k) := fun p h => byF_sub _ _ _ p (byF_sub _ _ _ p h)
def nit (n : Nat) (lk o : Nat → Int32) : Nat → Nat → Int32
  | 0 => o
  | r + 1 => nst n lk (nit n lk o r)
theorem nit_S8 {n : Nat} {lk o : Nat → Int32} (h : ∀ k, k < n → S8 (o k)) : ∀ r k, k < n → S8 (nit n lk o r k) := by
  intro r
  induction r with
  | zero => exact h
  | succ r ih => intro k hk; exact (ih k hk).sub (nst_sub _ _ _ _)
def chgB (n : Nat) (lk f : Nat → Int32) : Bool := anyN (fun k => decide (nst n lk f k ≠ f k)) n
def wt (f : Nat → Int32) : Nat → Nat
  | 0 => 0
  | j + 1 => wt f j + sz (f j)
theorem wt_le (f : Nat → Int32) (j : Nat) : wt f j ≤ 8 * j := by
  induction j with
  | zero => exact Nat.le_refl _
  | succ j ih => simp only [wt]; have := sz_le (f j); omega
theorem wt_mono {f g : Nat → Int32} (j : Nat) (h : ∀ i, i < j → sub8 (f i) (g i)) : wt f j ≤ wt g j := by
  induction j with
  | zero => exact Nat.le_refl _
  | succ j ih => simp only [wt]; have := sz_mono (h j (by omega)); have := ih (fun i hi => h i (by omega)); omega
theorem wt_lt {f g : Nat → Int32} (j : Nat) (h : ∀ i, i < j → sub8 (f i) (g i)) (hf : ∀ i, i < j → S8 (f i)) (hg : ∀ i, i < j → S8 (g i)) (hx : ∃ i, i < j ∧ f i ≠ g i) : wt f j < wt g j := by
  induction j with
  | zero => obtain ⟨i, hi, _⟩ := hx; omega
  | succ j ih =>
    simp only [wt]
    obtain ⟨i, hi, hne⟩ := hx
    by_cases e : i = j
    · subst e
      have h1 := sz_lt (hf i (by omega)) (hg i (by omega)) (h i (by omega)) hne
      have h2 := wt_mono i (fun a ha => h a (by omega))
      omega
    · have h1 := ih (fun a ha => h a (by omega)) (fun a ha => hf a (by omega)) (fun a ha => hg a (by omega)) ⟨i, by omega, hne⟩
      have h2 := sz_mono (h j (by omega))
      omega
theorem nit_end {n : Nat} (hn : n ≤ 16) {lk o : Nat → Int32} (h : ∀ k, k < n → S8 (o k)) : ∃ R, R ≤ 128 ∧ chgB n lk (nit n lk o R) = false ∧ ∀ r, r < R → chgB n lk (nit n lk o r) = true := by
  have hstep : ∀ r, (∀ q, q < r → chgB n lk (nit n lk o q) = true) → wt (nit n lk o r) n + r ≤ wt o n := by
    intro r
    induction r with
    | zero => intro _; exact Nat.le_refl _
    | succ r ih =>
      intro hq
      have h1 := ih (fun q hq' => hq q (by omega))
      have h2 := hq r (by omega)
      unfold chgB at h2
      obtain ⟨i, hi, c⟩ := (anyN_iff _ _).mp h2
      have c := of_decide_eq_true c
      have := wt_lt (f := nit n lk o (r + 1)) (g := nit n lk o r) n (fun i _ => nst_sub n lk (nit n lk o r) i) (nit_S8 h (r + 1)) (nit_S8 h r) ⟨i, hi, c⟩
      omega
  have hex : ∃ r, chgB n lk (nit n lk o r) = false := by
    apply Classical.byContradiction
    intro hno
    have := hstep 129 (fun q _ => by
      cases hb : chgB n lk (nit n lk o q)
      · exact absurd ⟨q, hb⟩ hno
      · rfl)
    have := wt_le o n
    omega
  obtain ⟨R, hR, hmin⟩ := pk_least _ hex
  have hall : ∀ r, r < R → chgB n lk (nit n lk o r) = true := fun r hr => by
    cases hb : chgB n lk (nit n lk o r)
    · exact absurd hb (hmin r hr)
    · rfl
  refine ⟨R, ?_, hR, hall⟩
  have := hstep R hall
  have := wt_le o n
  omega
/-- the reference: own sets found -/
def frM (P : Nat → Prop) (T T' : MS) : Prop := mi T' = mi T ∧ ∀ a, ¬ P a → ma T' a = ma T a
theorem frM_cor {P : Nat → Prop} {T T' : MS} (h : frM P T T') (hp : ∀ a, P a → 8 < a) : cor T T' := ⟨fun k _ => by rw [h.1], fun a ha => h.2 a (fun q => by have := hp a q; omega)⟩
theorem frM_rfl (P : Nat → Prop) (T : MS) : frM P T T := ⟨rfl, fun _ _ => rfl⟩
theorem frM_trans {P : Nat → Prop} {T T' T'' : MS} (h : frM P T T') (h2 : frM P T' T'') : frM P T T'' := ⟨h2.1.trans h.1, fun a ha => (h2.2 a ha).trans (h.2 a ha)⟩
theorem frM_ma {P : Nat → Prop} (T : MS) {a : Nat} (ha : P a) (j : Nat) (v : Int32) : frM P T (maW T a j v) := ⟨rfl, fun b hb => ma_maW' T j v (fun e => hb (by rw [e]; exact ha))⟩
theorem frM_ml {P : Nat → Prop} (T : MS) (a j : Nat) (v : Int64) : frM P T (mlW T a j v) := ⟨rfl, fun _ _ => rfl⟩
theorem frM_mono {P Q : Nat → Prop} {T T' : MS} (h : frM P T T') (hp : ∀ a, P a → Q a) : frM Q T T' := ⟨h.1, fun a ha => h.2 a (fun q => ha (hp a q))⟩
theorem m_findOwn {T : MS} (h : wfM T) : ∃ T', fX6_findOwn T = some T' ∧ frM (fun a => a = 9) T T' ∧ ml T' = ml T ∧ ∀ k, k < nT T → ma T' 9 k = oT T k := by
  have hn := h.1
  unfold fX6_findOwn
  refine lp_in _ (fun j q => q.1 = nI j ∧ frM (fun a => a = 9) T q.2 ∧ ml q.2 = ml T ∧ ∀ k, k < j → ma q.2 9 k = oT T k) (fun z => ∃ T', z = some T' ∧ frM (fun a => a = 9) T T' ∧ ml T' = ml T ∧ ∀ k, k < nT T → ma T' 9 k = oT T k) (nT T) (by omega) _ ⟨rfl, frM_rfl _ _, rfl, fun k hk => by omega⟩ ?_ ?_
  · rintro j ⟨x, A⟩ hj ⟨e, hf, hml, hA⟩
    dsimp only at e hf hA hml
    subst e
    have hc : cor T A := frM_cor hf (fun a e => by omega)
    have hwA := cor_wf hc h
    have hnA := cor_n hc
    have hrA := (hwA.2.2.2.2.2 j (by omega)).1
    refine ⟨(nI (j + 1), maW A 9 j (oT T j)), ⟨rfl, frM_trans hf (frM_ma (P := fun a => a = 9) A (a := 9) rfl _ _), hml, ?_⟩, ?_⟩
    · intro k hk
      show ma (maW A 9 j (oT T j)) 9 k = oT T k
      rw [ma_maW]
      by_cases e : k = j
      · subst e; rw [upd_s]
      · rw [upd_n _ _ e]; exact hA k (by omega)
    · intro k0
      dsimp only
      unfold bX6_findOwn_2
      rw [show mi A 3 = mi T 3 from by rw [hf.1], hn.1, if_neg (nI_ge hj (by omega)), m_speaks A (by omega) hrA, ob1_s, if_bi, m_ownOf A (by omega) hrA, ob1_s]
      have e32 : ∀ v : Int32, bX6_findOwn_32 k0 (nI j) (nI j) v A = k0 (nI (j + 1), maW A 9 j v) := by
        intro v
        unfold bX6_findOwn_32
        rw [ck_in (inb_nI (by omega) (by decide)), cl_nI (by omega), bnd_s, nI_1]
      rw [e32, e32, ← cor_o hc]
      unfold oT
      cases spT A j
      · rfl
      · rfl
  · rintro ⟨x, A⟩ ⟨e, hf, hml, hA⟩
    dsimp only at e hf hA hml
    subst e
    refine ⟨some A, ⟨A, rfl, hf, hml, hA⟩, ?_⟩
    intro k0
    dsimp only
    unfold bX6_findOwn_2
    rw [show mi A 3 = mi T 3 from by rw [hf.1], hn.1, if_pos (nI_le (Nat.le_refl _) (by omega))]
