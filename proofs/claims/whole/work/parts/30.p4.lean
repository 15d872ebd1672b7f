/-! own sets and links of the reference -/
theorem kd_in {T : MS} {k : Nat} {x : Int32} (hc : cT T k ≤ 12) (h : kdT T k x ≠ -1) : ∃ j, j < cT T k ∧ x = nI j ∧ kdT T k x = itT T k j := by
  unfold kdT at h ⊢
  by_cases hx : inb x (cT T k)
  · obtain ⟨j, hj, rfl⟩ := inb_ex (by omega) hx
    exact ⟨j, hj, rfl, by rw [if_pos hx, cl_nI (by omega)]⟩
  · rw [if_neg hx] at h; exact absurd rfl h
theorem kd_nI {T : MS} {k j : Nat} (hc : cT T k ≤ 12) (h : j < cT T k) : kdT T k (nI j) = itT T k j := by
  unfold kdT
  rw [if_pos (inb_nI h (by omega)), cl_nI (by omega)]
theorem who_ok {T : MS} {k : Nat} (h : rowOk T k) {x : Int32} (hw : whoT T k x ≠ -9) : ∃ j, j < cT T k ∧ whoT T k x = nI j ∧ (itT T k j = 3 ∨ itT T k j = 4 ∨ itT T k j = 5) := by
  have key : ∀ y : Int32, 3 ≤ kdT T k y → ∃ j, j < cT T k ∧ y = nI j ∧ (itT T k j = 3 ∨ itT T k j = 4 ∨ itT T k j = 5) := by
    intro y hy
    have hne : kdT T k y ≠ -1 := fun e => by rw [e] at hy; exact absurd hy (by decide)
    obtain ⟨j, hj, e, e2⟩ := kd_in h.1.2 hne
    refine ⟨j, hj, e, ?_⟩
    rw [e2] at hy
    rcases it_ok h hj with e | e | e | e | e | e
    · rw [e] at hy; exact absurd hy (by decide)
    · rw [e] at hy; exact absurd hy (by decide)
    · rw [e] at hy; exact absurd hy (by decide)
    · exact Or.inl e
    · exact Or.inr (Or.inl e)
    · exact Or.inr (Or.inr e)
  unfold whoT at hw ⊢
  by_cases h1 : 3 ≤ kdT T k (x + 1)
  · rw [if_pos h1]; exact key _ h1
  · rw [if_neg h1] at hw ⊢
    by_cases h2 : 3 ≤ kdT T k (x - 1)
    · rw [if_pos h2]; exact key _ h2
    · rw [if_neg h2] at hw; exact absurd rfl hw
def byT (T : MS) (k j : Nat) : Int32 := if itT T k j = 3 then soT T 0 else if itT T k j = 4 then soT T 1 else (1 : Int32) <<< (whT T k j &&& 31)
theorem m_byWho (T : MS) {k j : Nat} (hk : k < 16) (hj : j < 12) : fX6_byWho (nI k) (nI j) T = some (byT T k j) := by
  unfold fX6_byWho byT
  rw [x12, ck_in (inb_nI (by omega) (by decide)), bnd_s, m_ofSort, m_ofSort, ob1_s, ob1_s, ck_in (inb_nI (by omega) (by decide)), cl_nI (by omega)]
  unfold itT whT
  by_cases h3 : ma T 4 (12 * k + j) = 3
  · rw [if_pos h3, if_pos h3]
  · rw [if_neg h3, if_neg h3]
    by_cases h4 : ma T 4 (12 * k + j) = 4
    · rw [if_pos h4, if_pos h4]
    · rw [if_neg h4, if_neg h4]
def aT (T : MS) (k i : Nat) : Int32 := if (itT T k i = 0 ∧ whT T k i ≠ -9) ∧ tb (mi T 1) 0 = true then ((1 : Int32) <<< (whT T k i &&& 31)) ^^^ (-1) else 255
def bT (T : MS) (k i : Nat) : Int32 := if cnsT T k (nI i) = true ∧ tb (mi T 1) 1 = true then byT T k (whoT T k (nI i)).toNatClampNeg else 255
def owL (T : MS) (k : Nat) : Nat → Int32
  | 0 => ma T 7 k &&& thT T
  | j + 1 => (owL T k j &&& aT T k j) &&& bT T k j
def owD (T : MS) (k : Nat) : Int32 := if tb (mi T 1) 2 = true ∧ vcT T k = 0 ∧ kdT T k 0 = 5 ∧ kdT T k 1 = 2 then owL T k (cT T k) &&& ((1 : Int32) <<< (whT T k 0 &&& 31)) else owL T k (cT T k)
def owT (T : MS) (k : Nat) : Int32 := if ma T 8 k = -9 then owD T k else owD T k &&& ma T 8 k
theorem hasR (T : MS) (p : Nat) (hp : p < 32) (x : Int32) (hx : x = nI p) : fX6_has (mi T 1) x = tb (mi T 1) p := by rw [hx]; exact has_nI _ hp
theorem m_ownOf (T : MS) {k : Nat} (hk : k < 16) (h : rowOk T k) : fX6_ownOf (nI k) T = some (owT T k) := by
  have hc := h.1.2
  have e196 : ∀ x : Int32, bX6_ownOf_196 (nI k) x T = some (if ma T 8 k = -9 then x else x &&& ma T 8 k) := by
    intro x
    unfold bX6_ownOf_196
    rw [ck_in (inb_nI hk (by decide)), ck_in (inb_nI hk (by decide)), cl_nI (by omega)]
    by_cases h9 : ma T 8 k = -9
    · rw [if_pos h9, if_pos h9]
    · rw [if_neg h9, if_neg h9]
  have e95 : ∀ (k0 : Int32 × Int32 × Int32 × MS → Option Int32) (j : Nat) (x a : Int32), j < cT T k → bX6_ownOf_95 k0 (nI k) (nI j) x a T = k0 (nI k, (x &&& a) &&& bT T k j, nI (j + 1), T) := by
    intro k0 j x a hj
    unfold bX6_ownOf_95 bT
    rw [bnd_s, m_counts T hk h, ob1_s, if_bi, hasR T 1 (by decide) 1 rfl]
    cases h1 : cnsT T k (nI j)
    · rw [if_neg (by simp), if_neg (by simp), bnd_s, nI_1]
    · rw [if_pos rfl, if_bi]
      cases h2 : tb (mi T 1) 1
      · rw [if_neg (by simp), if_neg (by simp), bnd_s, nI_1]
      · rw [if_pos rfl, if_pos ⟨rfl, rfl⟩, m_whoOf T hk h, ob1_s]
        have hw : whoT T k (nI j) ≠ -9 := by
          unfold cnsT at h1
          exact (of_decide_eq_true h1).2.1
        obtain ⟨q, hq, e, -⟩ := who_ok h hw
        rw [e, m_byWho T hk (by omega), ob1_s, bnd_s, nI_1, cl_nI (by omega)]
  unfold fX6_ownOf
  rw [ck_in (inb_nI hk (by decide)), m_there, ob1_s, bnd_s, cl_nI (by omega)]
  refine lp_go _ (fun j => (nI k, owL T k j, nI j, T)) _ (cT T k) (by omega) ?_ ?_
  · intro j hj k0
    dsimp only
    unfold bX6_ownOf_14
    rw [ck_in (inb_nI hk (by decide)), cl_nI (by omega), h.1.1, if_neg (nI_ge hj (by omega)), m_isItem T hk h _ (by decide), ob1_s, if_bid, kd_nI hc hj, x12, ck_in (inb_nI (by omega) (by decide)), cl_nI (by omega)]
    have e55 : ∀ b : Bool, bX6_ownOf_55 k0 (nI k) (owL T k j) (nI j) b T = k0 (nI k, (owL T k j &&& (if b = true ∧ tb (mi T 1) 0 = true then ((1 : Int32) <<< (whT T k j &&& 31)) ^^^ (-1) else 255)) &&& bT T k j, nI (j + 1), T) := by
      intro b
      unfold bX6_ownOf_55
      rw [if_bi, hasR T 0 (by decide) 0 rfl, if_bi, x12, ck_in (inb_nI (by omega) (by decide)), cl_nI (by omega), e95 k0 j _ _ hj, e95 k0 j _ _ hj]
      cases b
      · rw [if_neg (by simp), if_neg (by simp)]
      · rw [if_pos rfl]
        cases h2 : tb (mi T 1) 0
        · rw [if_neg (by simp), if_neg (by simp)]
        · rw [if_pos rfl, if_pos ⟨rfl, rfl⟩]; rfl
    rw [e55, e55]
    show _ = k0 (nI k, (owL T k j &&& aT T k j) &&& bT T k j, nI (j + 1), T)
    unfold aT
    by_cases h0 : itT T k j = 0
    · rw [if_pos h0]
      by_cases h9 : whT T k j = -9
      · rw [if_pos (show ma T 5 (12 * k + j) = -9 from h9)]
        simp [h0, h9]
      · rw [if_neg (show ¬ ma T 5 (12 * k + j) = -9 from h9)]
        simp [h0, h9]
    · rw [if_neg h0]
      simp [h0]
  · intro k0
    dsimp only
    unfold bX6_ownOf_14
    rw [ck_in (inb_nI hk (by decide)), cl_nI (by omega), h.1.1, if_pos (nI_le (Nat.le_refl _) (by omega)), hasR T 2 (by decide) 2 rfl, if_bi]
    rw [m_manyCounting T hk h, ob1_s, m_isItem T hk h _ (by decide), ob1_s, if_bid, m_isItem T hk h _ (by decide), ob1_s, if_bid, bnd_s, e196, e196]
    have hx : (12 : Int32) * nI k = nI (12 * k) := by rw [show (12 : Int32) = nI 12 from rfl, pk_mul]
    rw [hx, ck_in (inb_nI (by omega) (by decide)), cl_nI (by omega)]
    unfold owT owD
    have hv : vcT T k ≤ 12 := Nat.le_trans (cntN_le _ _) hc
    have hz : (nI (vcT T k) = 0) ↔ vcT T k = 0 := nI_eq (b := 0) (by omega) (by omega)
    have hw0 : whT T k 0 = ma T 5 (12 * k) := rfl
    cases h2 : tb (mi T 1) 2
    · simp
    · by_cases h3 : vcT T k = 0
      · by_cases h4 : kdT T k 0 = 5
        · by_cases h5 : kdT T k 1 = 2
          · simp [h3, h4, h5, hw0, nI_0]
          · simp [h3, h4, h5, nI_0]
        · simp [h3, h4, nI_0]
      · have hz' : ¬ nI (vcT T k) = 0 := fun q => h3 (hz.mp q)
        rw [if_pos rfl, if_neg hz']
        simp [h3]
theorem S8_owL (T : MS) (k : Nat) (h : S8 (ma T 7 k)) (j : Nat) : S8 (owL T k j) := by
  induction j with
  | zero => exact h.and _
  | succ j ih => exact (ih.and _).and _
theorem S8_owT {T : MS} {k : Nat} (h : rowMore T k) : S8 (owT T k) := by
  have h0 := S8_owL T k h.2.1 (cT T k)
  have h1 : S8 (owD T k) := by
    unfold owD
    by_cases hc : tb (mi T 1) 2 = true ∧ vcT T k = 0 ∧ kdT T k 0 = 5 ∧ kdT T k 1 = 2
    · rw [if_pos hc]; exact h0.and _
    · rw [if_neg hc]; exact h0
  unfold owT
  by_cases h9 : ma T 8 k = -9
  · rw [if_pos h9]; exact h1
  · rw [if_neg h9]; exact h1.and _
def oT (T : MS) (k : Nat) : Int32 := if spT T k = true then owT T k else 0
theorem S8_oT {T : MS} {k : Nat} (h : rowMore T k) : S8 (oT T k) := by
  unfold oT
  cases spT T k
  · exact S8_0
  · exact S8_owT h
def lkT (T : MS) (k : Nat) : Int32 := if 0 < k ∧ k < nT T ∧ spT T k = true ∧ spT T (k - 1) = true then (if ma T 6 k = 0 then (if tb (mi T 1) 3 = true then 2 else 0) else 1) else 0
theorem m_linkAt (T : MS) (h : wfM T) {k : Nat} (hk : k ≤ 17) : fX6_linkAt (nI k) T = some (lkT T k) := by
  obtain ⟨⟨hn, hn16⟩, -, -, -, -, hr⟩ := h
  unfold fX6_linkAt lkT
  by_cases h0 : 0 < k
  · rw [if_neg (show ¬ nI k < 1 from nI_nlt (b := 1) h0 (by omega)), hn]
    by_cases h1 : k < nT T
    · rw [if_neg (nI_ge h1 (by omega)), m_speaks T (by omega) (hr k h1).1, ob1_s, if_bi]
      have e1 : nI k - 1 = nI (k - 1) := by rw [show (1 : Int32) = nI 1 from rfl, pk_sub h0]
      rw [e1, m_speaks T (by omega) (hr (k - 1) (by omega)).1, ob1_s, if_bi, ck_in (inb_nI (by omega) (by decide)), cl_nI (by omega), hasR T 3 (by decide) 3 rfl, if_bi]
      cases h2 : spT T k
      · simp
      · cases h3 : spT T (k - 1)
        · simp
        · by_cases h4 : ma T 6 k = 0
          · cases h5 : tb (mi T 1) 3
            · simp [h0, h1, h4]
            · simp [h0, h1, h4]
          · simp [h0, h1, h4]
    · rw [if_pos (nI_le (by omega) (by omega)), if_neg (fun q => h1 q.2.1)]
  · have : k = 0 := by omega
    subst this
    rw [if_pos (by decide), if_neg (by omega)]
theorem lk_cases (T : MS) (k : Nat) : lkT T k = 0 ∨ lkT T k = 1 ∨ lkT T k = 2 := by
  unfold lkT
  split
  · split
    · split
      · exact Or.inr (Or.inr rfl)
      · exact Or.inl rfl
    · exact Or.inr (Or.inl rfl)
  · exact Or.inl rfl
/-- the reference's own room for sums: what else may change -/
def cor (T T' : MS) : Prop := (∀ k, k ≤ 3 → mi T' k = mi T k) ∧ ∀ a, a ≤ 8 → ma T' a = ma T a
theorem cor_rfl (T : MS) : cor T T := ⟨fun _ _ => rfl, fun _ _ => rfl⟩
theorem cor_trans {T T' T'' : MS} (h : cor T T') (h2 : cor T' T'') : cor T T'' := ⟨fun k hk => (h2.1 k hk).trans (h.1 k hk), fun a ha => (h2.2 a ha).trans (h.2 a ha)⟩
theorem cor_symm {T T' : MS} (h : cor T T') : cor T' T := ⟨fun k hk => (h.1 k hk).symm, fun a ha => (h.2 a ha).symm⟩
theorem cor_ma (T : MS) {a : Nat} (ha : 8 < a) (j : Nat) (v : Int32) : cor T (maW T a j v) := ⟨fun _ _ => rfl, fun b hb => by
  show va_up T.2.1 a _ b = T.2.1 b
  unfold va_up
  rw [if_neg (by omega)]⟩
theorem cor_ml (T : MS) (a j : Nat) (v : Int64) : cor T (mlW T a j v) := ⟨fun _ _ => rfl, fun _ _ => rfl⟩
theorem cor_n {T T' : MS} (h : cor T T') : nT T' = nT T := by unfold nT; rw [h.1 3 (by omega)]
theorem cor_c {T T' : MS} (h : cor T T') : cT T' = cT T := by funext k; unfold cT; rw [h.2 3 (by omega)]
theorem cor_it {T T' : MS} (h : cor T T') : itT T' = itT T := by funext k i; unfold itT; rw [h.2 4 (by omega)]
theorem cor_wh {T T' : MS} (h : cor T T') : whT T' = whT T := by funext k i; unfold whT; rw [h.2 5 (by omega)]
theorem cor_row {T T' : MS} (h : cor T T') {k : Nat} (hr : rowOk T k) : rowOk T' k := by
  unfold rowOk at hr ⊢
  rw [cor_c h, cor_it h, cor_wh h, h.2 3 (by omega)]
  exact hr
theorem cor_sp {T T' : MS} (h : cor T T') : spT T' = spT T := by
  funext k
  unfold spT quT
  rw [cor_c h, cor_it h]
theorem cor_kd {T T' : MS} (h : cor T T') : kdT T' = kdT T := by
  funext k x
  unfold kdT
  rw [cor_c h, cor_it h]
theorem cor_who {T T' : MS} (h : cor T T') : whoT T' = whoT T := by
  funext k x
  unfold whoT
  rw [cor_kd h]
theorem cor_cns {T T' : MS} (h : cor T T') : cnsT T' = cnsT T := by
  funext k x
  unfold cnsT fstT
  rw [cor_kd h, cor_who h]
theorem cor_th {T T' : MS} (h : cor T T') : thT T' = thT T := by
  have : thB T' = thB T := by funext p; unfold thB; rw [h.2 1 (by omega)]
  unfold thT; rw [this]
theorem cor_so {T T' : MS} (h : cor T T') : soT T' = soT T := by
  funext s
  have : soB T' s = soB T s := by funext p; unfold soB; rw [h.2 1 (by omega)]
  unfold soT; rw [this]
theorem cor_ow {T T' : MS} (h : cor T T') : owT T' = owT T := by
  have hb : byT T' = byT T := by funext k j; unfold byT; rw [cor_it h, cor_wh h, cor_so h]
  have h1 : aT T' = aT T := by funext k j; unfold aT; rw [cor_it h, cor_wh h, h.1 1 (by omega)]
  have h2 : bT T' = bT T := by funext k j; unfold bT; rw [cor_cns h, cor_who h, hb, h.1 1 (by omega)]
  have h3 : owL T' = owL T := by
    funext k j
    induction j with
    | zero => simp only [owL, cor_th h, h.2 7 (by omega)]
    | succ j ih => simp only [owL, ih, h1, h2]
  funext k
  unfold owT owD vcT
  rw [h3, cor_c h, cor_cns h, cor_kd h, cor_wh h, h.1 1 (by omega), h.2 8 (by omega)]
theorem cor_o {T T' : MS} (h : cor T T') : oT T' = oT T := by
  funext k
  unfold oT
  rw [cor_sp h, cor_ow h]
theorem cor_lk {T T' : MS} (h : cor T T') : lkT T' = lkT T := by
  funext k
  unfold lkT
  rw [cor_n h, cor_sp h, h.2 6 (by omega), h.1 1 (by omega)]
theorem cor_wf {T T' : MS} (h : cor T T') (hw : wfM T) : wfM T' := by
  have ht : tT T' = tT T := by unfold tT; rw [h.1 2 (by omega)]
  obtain ⟨h1, h2, h3, h4, h5, h6⟩ := hw
  unfold wfM
  rw [cor_n h, ht, h.1 3 (by omega), h.1 2 (by omega), h.1 0 (by omega), h.1 1 (by omega), h.2 1 (by omega)]
  refine ⟨h1, h2, h3, h4, h5, fun k hk => ⟨cor_row h (h6 k hk).1, ?_⟩⟩
  have := (h6 k hk).2
  unfold rowMore at this ⊢
  rw [h.2 6 (by omega), h.2 7 (by omega), h.2 8 (by omega)]
  exact this
