/-! the reference's readers, further -/
def quT (T : MS) (k : Nat) : Nat := cntN (fun i => decide (itT T k i = 0)) (cT T k)
def spT (T : MS) (k : Nat) : Bool := decide (0 < quT T k)
theorem m_speaks (T : MS) {k : Nat} (hk : k < 16) (h : rowOk T k) : fX6_speaks (nI k) T = some (spT T k) := by
  unfold fX6_speaks
  rw [m_manyOf T hk h, ob1_s]
  have hle : cntN (fun i => decide (itT T k i = 0)) (cT T k) ≤ 12 := Nat.le_trans (cntN_le _ _) h.1.2
  unfold spT quT
  by_cases h0 : 0 < cntN (fun i => decide (itT T k i = 0)) (cT T k)
  · rw [if_neg (nI_nle h0 (by omega))]; simp [h0]
  · have : cntN (fun i => decide (itT T k i = 0)) (cT T k) = 0 := by omega
    rw [this, if_pos (by decide)]; rfl
def thB (T : MS) (p : Nat) : Int32 := if ma T 1 p = -9 then 0 else (1 : Int32) <<< (nI p &&& 31)
def thT (T : MS) : Int32 := orN (thB T) 8
theorem or_0 (x : Int32) : x ||| 0 = x := by apply tb_ext; intro p _; rw [tb_or, tb_0]; simp
theorem and_255 {x : Int32} (h : S8 x) : x &&& 255 = x := by
  apply tb_ext; intro p _; rw [tb_and, tb_255]
  rcases Nat.lt_or_ge p 8 with h1 | h1
  · simp [h1]
  · rw [h p h1]; rfl
theorem m_there (T : MS) : fX6_there T = some (thT T) := by
  unfold fX6_there
  refine lp_go _ (fun j => (orN (thB T) j, nI j, T)) _ 8 (by omega) ?_ ?_
  · intro j hj k0
    dsimp only
    unfold bX6_there_4
    rw [if_neg (ge8n hj), ck_in (inb_nI hj (by decide)), cl_nI (by omega)]
    by_cases h9 : ma T 1 j = -9
    · rw [if_pos h9]; simp only [bnd, orN, thB, if_pos h9, nI_1]
    · rw [if_neg h9]; simp only [bnd, orN, thB, if_neg h9, nI_1]
  · intro k0
    dsimp only
    unfold bX6_there_4
    rw [if_pos ge8]
    rfl
theorem tb_thT (T : MS) (p : Nat) : tb (thT T) p = true ↔ p < 8 ∧ ma T 1 p ≠ -9 := by
  unfold thT
  rw [tb_orN]
  constructor
  · rintro ⟨i, h1, h2⟩
    unfold thB at h2
    by_cases h9 : ma T 1 i = -9
    · rw [if_pos h9, tb_0] at h2; cases h2
    · rw [if_neg h9, tb_sh (by omega)] at h2
      have := of_decide_eq_true h2
      subst this
      exact ⟨h1, h9⟩
  · rintro ⟨h1, h2⟩
    refine ⟨p, h1, ?_⟩
    unfold thB
    rw [if_neg h2, tb_sh (by omega)]; simp
theorem S8_thT (T : MS) : S8 (thT T) := fun p hp => by
  cases h : tb (thT T) p
  · rfl
  · have := (tb_thT T p).mp h; omega
/-- is this number a person who is there -/
def isTh (T : MS) (x : Int32) : Bool := decide (0 ≤ x ∧ x ≤ 7 ∧ ma T 1 x.toNatClampNeg ≠ -9)
theorem in8_iff (x : Int32) : (0 ≤ x ∧ x ≤ 7) ↔ ∃ p, p < 8 ∧ x = nI p := by
  constructor
  · rintro ⟨h1, h2⟩
    obtain ⟨j, hj, e⟩ := nI_of2 (x := x) (M := 7) (n := 7) rfl (fun h => by
      have a := Int32.lt_iff_toInt_lt.mp h
      have b := Int32.le_iff_toInt_le.mp h1
      omega) h2
    exact ⟨j, by omega, e⟩
  · rintro ⟨p, hp, rfl⟩
    exact ⟨nI_pos' (by omega), nI_le (b := 7) (by omega) (by omega)⟩
theorem m_isThere (T : MS) (x : Int32) : fX6_isThere x T = some (isTh T x) := by
  unfold fX6_isThere isTh
  rw [within_eq]
  by_cases h : 0 ≤ x ∧ x ≤ 7
  · obtain ⟨p, hp, e⟩ := (in8_iff x).mp h
    rw [if_bid, if_pos h]
    subst e
    rw [ck_in (inb_nI hp (by decide)), cl_nI (by omega)]
    by_cases h9 : ma T 1 p = -9
    · rw [if_pos h9]; simp [h9]
    · rw [if_neg h9]; simp [h9, h]
  · rw [if_bid, if_neg h]
    simp only [Option.some.injEq]
    symm; rw [decide_eq_false_iff_not]
    exact fun q => h ⟨q.1, q.2.1⟩
theorem isTh_nI (T : MS) {p : Nat} (hp : p < 8) : isTh T (nI p) = tb (thT T) p := by
  unfold isTh
  have h1 : 0 ≤ nI p := nI_pos' (by omega)
  have h2 : nI p ≤ 7 := nI_le (b := 7) (by omega) (by omega)
  rw [cl_nI (by omega)]
  cases h : tb (thT T) p
  · rw [decide_eq_false_iff_not]
    intro q
    rw [(tb_thT T p).mpr ⟨hp, q.2.2⟩] at h; cases h
  · have := (tb_thT T p).mp h
    simp [h1, h2, this.2]
theorem isTh_out (T : MS) {x : Int32} (h : ¬ (0 ≤ x ∧ x ≤ 7)) : isTh T x = false := by
  unfold isTh
  rw [decide_eq_false_iff_not]
  exact fun q => h ⟨q.1, q.2.1⟩
/-- the item at a place, -1 outside -/
def kdT (T : MS) (k : Nat) (x : Int32) : Int32 := if inb x (cT T k) then itT T k x.toNatClampNeg else -1
theorem inb_iff {x : Int32} {n : Nat} (hn : n < 2 ^ 31) : inb x n ↔ (0 ≤ x ∧ x ≤ nI n - 1) := by
  have hv : inb x n ↔ 0 ≤ x.toInt ∧ x.toInt < n := vp_in_iff
  rw [hv]
  have e1 : (nI n - 1).toInt = (n : Int) - 1 := by
    rcases Nat.eq_zero_or_pos n with rfl | h
    · rfl
    · rw [show (1 : Int32) = nI 1 from rfl, pk_sub h, nI_toInt (by omega)]; omega
  have l1 := Int32.le_iff_toInt_le (x := 0) (y := x)
  have l2 := Int32.le_iff_toInt_le (x := x) (y := nI n - 1)
  have z : (0 : Int32).toInt = 0 := rfl
  rw [l1, l2, e1, z]
  omega
theorem inb_ex {x : Int32} {n : Nat} (hn : n < 2 ^ 31) (h : inb x n) : ∃ j, j < n ∧ x = nI j := vp_in_of h hn
theorem x12 {k j : Nat} : (12 : Int32) * nI k + nI j = nI (12 * k + j) := by rw [show (12 : Int32) = nI 12 from rfl, pk_mul, nI_add]
theorem it_ok {T : MS} {k i : Nat} (h : rowOk T k) (hi : i < cT T k) : itT T k i = 0 ∨ itT T k i = 1 ∨ itT T k i = 2 ∨ itT T k i = 3 ∨ itT T k i = 4 ∨ itT T k i = 5 := by
  rcases h.2 i hi with ⟨e, _⟩ | ⟨e | e | e | e, _⟩ | ⟨e, _⟩ <;> simp [e]
theorem m_isItem (T : MS) {k : Nat} (hk : k < 16) (h : rowOk T k) (x : Int32) {w : Int32} (hw : w ≠ -1) : fX6_isItem (nI k) x w T = some (decide (kdT T k x = w)) := by
  unfold fX6_isItem kdT
  rw [ck_in (inb_nI hk (by decide)), cl_nI (by omega), h.1.1, within_eq, if_bid]
  have hc := h.1.2
  by_cases hx : inb x (cT T k)
  · rw [if_pos ((inb_iff (by omega)).mp hx), if_pos hx]
    obtain ⟨j, hj, rfl⟩ := inb_ex (by omega) hx
    rw [x12, ck_in (inb_nI (by omega) (by decide)), cl_nI (by omega), cl_nI (by omega)]
    unfold itT
    by_cases e : ma T 4 (12 * k + j) = w
    · rw [if_pos e]; simp [e]
    · rw [if_neg e]; simp [e]
  · rw [if_neg (fun q => hx ((inb_iff (by omega)).mpr q)), if_neg hx]
    simp [Ne.symm hw]
theorem m_isWho (T : MS) {k : Nat} (hk : k < 16) (h : rowOk T k) (x : Int32) : fX6_isWho (nI k) x T = some (decide (3 ≤ kdT T k x)) := by
  unfold fX6_isWho kdT
  rw [ck_in (inb_nI hk (by decide)), cl_nI (by omega), h.1.1, within_eq, if_bid]
  have hc := h.1.2
  by_cases hx : inb x (cT T k)
  · rw [if_pos ((inb_iff (by omega)).mp hx), if_pos hx]
    obtain ⟨j, hj, rfl⟩ := inb_ex (by omega) hx
    rw [x12, ck_in (inb_nI (by omega) (by decide)), cl_nI (by omega), cl_nI (by omega)]
    have := it_ok h hj
    unfold itT at this ⊢
    rcases this with e | e | e | e | e | e <;> rw [e] <;> rfl
  · rw [if_neg (fun q => hx ((inb_iff (by omega)).mpr q)), if_neg hx]
    rfl
def whoT (T : MS) (k : Nat) (x : Int32) : Int32 := if 3 ≤ kdT T k (x + 1) then x + 1 else if 3 ≤ kdT T k (x - 1) then x - 1 else -9
theorem m_whoOf (T : MS) {k : Nat} (hk : k < 16) (h : rowOk T k) (x : Int32) : fX6_whoOf (nI k) x T = some (whoT T k x) := by
  unfold fX6_whoOf whoT
  rw [m_isWho T hk h, ob1_s, m_isWho T hk h, if_bid]
  by_cases h1 : 3 ≤ kdT T k (x + 1)
  · rw [if_pos h1, if_pos h1]
  · rw [if_neg h1, if_neg h1, ob1_s, if_bid]
    by_cases h2 : 3 ≤ kdT T k (x - 1)
    · rw [if_pos h2, if_pos h2]
    · rw [if_neg h2, if_neg h2]
def fstT (T : MS) (k : Nat) (x : Int32) : Int32 := if x ≤ whoT T k x then x else x - 1
def cnsT (T : MS) (k : Nat) (x : Int32) : Bool := decide (kdT T k x = 1 ∧ whoT T k x ≠ -9 ∧ (kdT T k (fstT T k x - 1) = 0 ∨ kdT T k (fstT T k x + 2) = 0))
theorem m_counts (T : MS) {k : Nat} (hk : k < 16) (h : rowOk T k) (x : Int32) : fX6_counts (nI k) x T = some (cnsT T k x) := by
  have h40 : ∀ f : Int32, bX6_counts_40 (nI k) f T = some (decide (kdT T k (f - 1) = 0 ∨ kdT T k (f + 2) = 0)) := by
    intro f
    unfold bX6_counts_40
    rw [m_isItem T hk h _ (by decide), ob1_s, m_isItem T hk h _ (by decide), if_bid]
    by_cases h1 : kdT T k (f - 1) = 0
    · rw [if_pos h1]; simp [h1]
    · rw [if_neg h1, ob1_s, if_bid]
      by_cases h2 : kdT T k (f + 2) = 0
      · rw [if_pos h2]; simp [h2]
      · rw [if_neg h2]; simp [h1, h2]
  unfold fX6_counts cnsT
  rw [m_isItem T hk h _ (by decide), ob1_s, if_bid]
  by_cases h1 : kdT T k x = 1
  · rw [if_pos h1, m_whoOf T hk h, ob1_s]
    by_cases h2 : whoT T k x = -9
    · rw [if_pos h2]; simp [h2]
    · rw [if_neg h2, ob1_s]
      unfold fstT
      by_cases h3 : x ≤ whoT T k x
      · rw [if_pos h3, if_pos h3, h40]; simp [h1, h2]
      · rw [if_neg h3, if_neg h3, h40]; simp [h1, h2]
  · rw [if_neg h1]; simp [h1]
def vcT (T : MS) (k : Nat) : Nat := cntN (fun i => cnsT T k (nI i)) (cT T k)
theorem m_manyCounting (T : MS) {k : Nat} (hk : k < 16) (h : rowOk T k) : fX6_manyCounting (nI k) T = some (nI (vcT T k)) := by
  unfold fX6_manyCounting vcT
  have hc := h.1.2
  refine lp_go _ (fun j => (nI k, nI (cntN (fun i => cnsT T k (nI i)) j), nI j, T)) _ (cT T k) (by omega) ?_ ?_
  · intro j hj k0
    dsimp only
    unfold bX6_manyCounting_4
    rw [ck_in (inb_nI hk (by decide)), cl_nI (by omega), h.1.1, if_neg (nI_ge hj (by omega)), m_counts T hk h, ob1_s, if_bi]
    cases h9 : cnsT T k (nI j)
    · rw [if_neg (by simp)]; simp only [bnd, cntN, h9, nI_1, Int32.add_zero]; rfl
    · rw [if_pos rfl]; simp only [bnd, cntN, h9, nI_1, if_true]
  · intro k0
    dsimp only
    unfold bX6_manyCounting_4
    rw [ck_in (inb_nI hk (by decide)), cl_nI (by omega), h.1.1, if_pos (nI_le (Nat.le_refl _) (by omega))]
def soB (T : MS) (s : Int32) (p : Nat) : Int32 := if ma T 1 p = s then (1 : Int32) <<< (nI p &&& 31) else 0
def soT (T : MS) (s : Int32) : Int32 := orN (soB T s) 8
theorem m_ofSort (T : MS) (s : Int32) : fX6_ofSort s T = some (soT T s) := by
  unfold fX6_ofSort
  refine lp_go _ (fun j => (s, orN (soB T s) j, nI j, T)) _ 8 (by omega) ?_ ?_
  · intro j hj k0
    dsimp only
    unfold bX6_ofSort_4
    rw [if_neg (ge8n hj), ck_in (inb_nI hj (by decide)), cl_nI (by omega)]
    by_cases h9 : ma T 1 j = s
    · rw [if_pos h9]; simp only [bnd, orN, soB, if_pos h9, nI_1]
    · rw [if_neg h9]; simp only [bnd, orN, soB, if_neg h9, nI_1]
  · intro k0
    dsimp only
    unfold bX6_ofSort_4
    rw [if_pos ge8]
    rfl
theorem tb_soT (T : MS) (s : Int32) (p : Nat) : tb (soT T s) p = true ↔ p < 8 ∧ ma T 1 p = s := by
  unfold soT
  rw [tb_orN]
  constructor
  · rintro ⟨i, h1, h2⟩
    unfold soB at h2
    by_cases h9 : ma T 1 i = s
    · rw [if_pos h9, tb_sh (by omega)] at h2
      have := of_decide_eq_true h2
      subst this
      exact ⟨h1, h9⟩
    · rw [if_neg h9, tb_0] at h2; cases h2
  · rintro ⟨h1, h2⟩
    refine ⟨p, h1, ?_⟩
    unfold soB
    rw [if_pos h2, tb_sh (by omega)]; simp
theorem S8_soT (T : MS) (s : Int32) : S8 (soT T s) := fun p hp => by
  cases h : tb (soT T s) p
  · rfl
  · have := (tb_soT T s p).mp h; omega
