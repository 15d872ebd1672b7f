/-! a text on the tape: the reference reads it -/
theorem lp_wf {α β : Type} (F : (α → Option β) → α → Option β) (I : α → Prop) (μ : α → Nat) (Post : Option β → Prop) (h : ∀ a, I a → (∃ a', I a' ∧ μ a' < μ a ∧ ∀ k, F k a = k a') ∨ (∃ z, Post z ∧ ∀ k, F k a = z)) : ∀ n a, I a → μ a < n → Post (lp F n a) := by
  intro n
  induction n with
  | zero => intro a _ h2; omega
  | succ n ih =>
    intro a hI hm
    rw [lp_succ]
    rcases h a hI with ⟨a', h1, h2, h3⟩ | ⟨z, h1, h2⟩
    · rw [h3]; exact ih a' h1 (by omega)
    · rw [h2]; exact h1
def ahT (T : MS) (i : Nat) : Int32 := if i = 0 then -1 else ma T 2 (i - 1)
def nmT (T : MS) (x : Int32) : Bool := isTh T (x - 65)
def goT (T : MS) : Bool := decide (0 < nT T) && spT T (nT T - 1)
/-- may the code at i stand there -/
def okT (T : MS) (i : Nat) : Bool := if ahT T i = 64 then nmT T (ma T 2 i) else if ma T 2 i = 43 then (decide (i = 0) && goT T) else if ma T 2 i = 64 then decide (ahT T i = 113) else if ma T 2 i = 104 ∨ ma T 2 i = 111 ∨ ma T 2 i = 113 ∨ ma T 2 i = 115 ∨ ma T 2 i = 118 then true else nmT T (ma T 2 i)
/-- the row that the codes ahead of i make: how many items, their sorts, their names -/
def rwT (T : MS) : Nat → Nat × (Nat → Int32) × (Nat → Int32)
  | 0 => (0, fun _ => 0, fun _ => -9)
  | i + 1 => if i = 0 ∧ ma T 2 0 = 43 then rwT T i else if ahT T i = 64 then ((rwT T i).1, (rwT T i).2.1, upd (rwT T i).2.2 ((rwT T i).1 - 1) (ma T 2 i - 65)) else if ma T 2 i = 64 then rwT T i else ((rwT T i).1 + 1, upd (rwT T i).2.1 (rwT T i).1 (fX6_sortOfItem (ma T 2 i)), upd (rwT T i).2.2 (rwT T i).1 (if fX6_sortOfItem (ma T 2 i) = 5 then ma T 2 i - 65 else -9))
theorem rwT_le (T : MS) (i : Nat) : (rwT T i).1 ≤ i := by
  induction i with
  | zero => exact Nat.le_refl _
  | succ i ih =>
    simp only [rwT]
    by_cases h1 : i = 0 ∧ ma T 2 0 = 43
    · rw [if_pos h1]; omega
    · rw [if_neg h1]
      by_cases h2 : ahT T i = 64
      · rw [if_pos h2]; show (rwT T i).1 ≤ i + 1; omega
      · rw [if_neg h2]
        by_cases h3 : ma T 2 i = 64
        · rw [if_pos h3]; omega
        · rw [if_neg h3]; show (rwT T i).1 + 1 ≤ i + 1; omega
theorem sort_cases (x : Int32) : (x = 113 ∧ fX6_sortOfItem x = 0) ∨ (x = 118 ∧ fX6_sortOfItem x = 1) ∨ (x = 111 ∧ fX6_sortOfItem x = 2) ∨ (x = 104 ∧ fX6_sortOfItem x = 3) ∨ (x = 115 ∧ fX6_sortOfItem x = 4) ∨ (x ≠ 113 ∧ x ≠ 118 ∧ x ≠ 111 ∧ x ≠ 104 ∧ x ≠ 115 ∧ fX6_sortOfItem x = 5) := by
  by_cases h1 : x = 113
  · subst h1; exact Or.inl ⟨rfl, by decide⟩
  · by_cases h2 : x = 118
    · subst h2; exact Or.inr (Or.inl ⟨rfl, by decide⟩)
    · by_cases h3 : x = 111
      · subst h3; exact Or.inr (Or.inr (Or.inl ⟨rfl, by decide⟩))
      · by_cases h4 : x = 104
        · subst h4; exact Or.inr (Or.inr (Or.inr (Or.inl ⟨rfl, by decide⟩)))
        · by_cases h5 : x = 115
          · subst h5; exact Or.inr (Or.inr (Or.inr (Or.inr (Or.inl ⟨rfl, by decide⟩))))
          · refine Or.inr (Or.inr (Or.inr (Or.inr (Or.inr ⟨h1, h2, h3, h4, h5, ?_⟩))))
            unfold fX6_sortOfItem
            rw [if_neg h4, if_neg h3, if_neg h1, if_neg h5, if_neg h2]
            repeat' split
            all_goals rfl
theorem nm_in {T : MS} {x : Int32} (h : nmT T x = true) : ∃ p, p < 8 ∧ x - 65 = nI p ∧ ma T 1 p ≠ -9 := by
  unfold nmT isTh at h
  have h := of_decide_eq_true h
  obtain ⟨p, hp, e⟩ := (in8_iff _).mp ⟨h.1, h.2.1⟩
  refine ⟨p, hp, e, ?_⟩
  have := h.2.2
  rw [e, cl_nI (by omega)] at this
  exact this
theorem nm_code {x : Int32} {p : Nat} (hp : p < 8) (h : x - 65 = nI p) : x = nI (65 + p) := by
  have : x = nI p + 65 := by rw [← h, Int32.sub_add_cancel]
  rw [this, show (65 : Int32) = nI 65 from rfl, nI_add, Nat.add_comm]
theorem nm_ne {T : MS} {x : Int32} (h : nmT T x = true) : x ≠ 64 ∧ x ≠ 113 ∧ x ≠ 43 ∧ fX6_sortOfItem x = 5 ∧ 65 ≤ x ∧ x ≤ 72 := by
  obtain ⟨p, hp, e, -⟩ := nm_in h
  have hx := nm_code hp e
  subst hx
  have : ∀ p, p < 8 → nI (65 + p) ≠ 64 ∧ nI (65 + p) ≠ 113 ∧ nI (65 + p) ≠ 43 ∧ fX6_sortOfItem (nI (65 + p)) = 5 ∧ 65 ≤ nI (65 + p) ∧ nI (65 + p) ≤ 72 := by decide +kernel
  exact this p hp
/-- what stays while a text is read into row n -/
def stayM (T A : MS) : Prop := (∀ k, k ≤ 3 → mi A k = mi T k) ∧ (∀ a, a ≠ 3 → a ≠ 4 → a ≠ 5 → a ≠ 6 → ma A a = ma T a) ∧ (∀ k, k ≠ nT T → ma A 3 k = ma T 3 k ∧ ma A 6 k = ma T 6 k) ∧ ∀ j, j < 12 * nT T → ma A 4 j = ma T 4 j ∧ ma A 5 j = ma T 5 j
theorem stay_rfl (T : MS) : stayM T T := ⟨fun _ _ => rfl, fun _ _ _ _ _ => rfl, fun _ _ => ⟨rfl, rfl⟩, fun _ _ => ⟨rfl, rfl⟩⟩
theorem stay_p {T A : MS} (h : stayM T A) (v : Int32) : stayM T (miW A 4 v) := ⟨fun k hk => (mi_miW' A v (by omega)).trans (h.1 k hk), h.2.1, h.2.2.1, h.2.2.2⟩
theorem stay_3 {T A : MS} (h : stayM T A) (v : Int32) : stayM T (maW A 3 (nT T) v) := ⟨h.1, fun a h3 h4 h5 h6 => (ma_maW' A _ v h3).trans (h.2.1 a h3 h4 h5 h6), fun k hk => ⟨by rw [ma_maW, upd_n _ _ hk]; exact (h.2.2.1 k hk).1, by rw [ma_maW' A _ v (by decide)]; exact (h.2.2.1 k hk).2⟩, fun j hj => ⟨by rw [ma_maW' A _ v (by decide)]; exact (h.2.2.2 j hj).1, by rw [ma_maW' A _ v (by decide)]; exact (h.2.2.2 j hj).2⟩⟩
theorem stay_6 {T A : MS} (h : stayM T A) (v : Int32) : stayM T (maW A 6 (nT T) v) := ⟨h.1, fun a h3 h4 h5 h6 => (ma_maW' A _ v h6).trans (h.2.1 a h3 h4 h5 h6), fun k hk => ⟨by rw [ma_maW' A _ v (by decide)]; exact (h.2.2.1 k hk).1, by rw [ma_maW, upd_n _ _ hk]; exact (h.2.2.1 k hk).2⟩, fun j hj => ⟨by rw [ma_maW' A _ v (by decide)]; exact (h.2.2.2 j hj).1, by rw [ma_maW' A _ v (by decide)]; exact (h.2.2.2 j hj).2⟩⟩
theorem stay_4 {T A : MS} (h : stayM T A) {j : Nat} (hj : 12 * nT T ≤ j) (v : Int32) : stayM T (maW A 4 j v) := ⟨h.1, fun a h3 h4 h5 h6 => (ma_maW' A _ v h4).trans (h.2.1 a h3 h4 h5 h6), fun k hk => ⟨by rw [ma_maW' A _ v (by decide)]; exact (h.2.2.1 k hk).1, by rw [ma_maW' A _ v (by decide)]; exact (h.2.2.1 k hk).2⟩, fun i hi => ⟨by rw [ma_maW, upd_n _ _ (by omega)]; exact (h.2.2.2 i hi).1, by rw [ma_maW' A _ v (by decide)]; exact (h.2.2.2 i hi).2⟩⟩
theorem stay_5 {T A : MS} (h : stayM T A) {j : Nat} (hj : 12 * nT T ≤ j) (v : Int32) : stayM T (maW A 5 j v) := ⟨h.1, fun a h3 h4 h5 h6 => (ma_maW' A _ v h5).trans (h.2.1 a h3 h4 h5 h6), fun k hk => ⟨by rw [ma_maW' A _ v (by decide)]; exact (h.2.2.1 k hk).1, by rw [ma_maW' A _ v (by decide)]; exact (h.2.2.1 k hk).2⟩, fun i hi => ⟨by rw [ma_maW' A _ v (by decide)]; exact (h.2.2.2 i hi).1, by rw [ma_maW, upd_n _ _ (by omega)]; exact (h.2.2.2 i hi).2⟩⟩
theorem stay_isTh {T A : MS} (h : stayM T A) (x : Int32) : isTh A x = isTh T x := by
  unfold isTh
  rw [h.2.1 1 (by decide) (by decide) (by decide) (by decide)]
/-- is a name at this place of the tape -/
theorem m_nameHere {T A : MS} (hT : wfM T) (h : stayM T A) {i : Nat} (hi : i ≤ tT T) (hp : mi A 4 = nI i) : fX6_isNameHere A = some (decide (i < tT T) && nmT T (ma T 2 i)) := by
  have ht := hT.2.1
  unfold fX6_isNameHere
  rw [h.1 2 (by omega), ht.1, hp]
  by_cases q : i < tT T
  · rw [if_neg (nI_ge q (by omega)), ck_in (inb_nI (by omega) (by decide)), cl_nI (by omega), h.2.1 2 (by decide) (by decide) (by decide) (by decide), within_eq, if_bid, ck_in (inb_nI (by omega) (by decide)), m_isThere, ob1_s, if_bi, stay_isTh h]
    rw [show decide (i < tT T) = true from decide_eq_true q, Bool.true_and]
    unfold nmT
    cases hn : isTh T (ma T 2 i - 65)
    · by_cases z : 65 ≤ ma T 2 i ∧ ma T 2 i ≤ 72
      · rw [if_pos z, if_neg (by simp)]
      · rw [if_neg z]
    · have := nm_ne (T := T) (x := ma T 2 i) hn
      rw [if_pos ⟨this.2.2.2.2.1, this.2.2.2.2.2⟩, if_pos rfl]
  · rw [if_pos (nI_le (by omega) (by omega)), show decide (i < tT T) = false from decide_eq_false q]; rfl
/-- the row n as far as it has been read -/
def rowIs (T A : MS) (r : Nat × (Nat → Int32) × (Nat → Int32)) : Prop := ma A 3 (nT T) = nI r.1 ∧ ∀ m, m < r.1 → ma A 4 (12 * nT T + m) = r.2.1 m ∧ ma A 5 (12 * nT T + m) = r.2.2 m
/-- a place between two items -/
def bdT (T : MS) (i : Nat) : Prop := ahT T i ≠ 64 ∧ (i < tT T → ma T 2 i = 64 → ahT T i ≠ 113) ∧ (i < tT T → ¬ (i = 0 ∧ ma T 2 0 = 43))
/-- one item read: on to the next place, or a fault -/
theorem m_readsItem {T A : MS} (hT : wfM T) (hn : nT T < 16) (h : stayM T A) {i : Nat} (hi : i < tT T) (hp : mi A 4 = nI i) (hrow : rowIs T A (rwT T i)) (hbd : bdT T i) :
    (∃ i' A', i < i' ∧ i' ≤ tT T ∧ fX6_readsItem (nI (nT T)) A = some (true, A') ∧ stayM T A' ∧ mi A' 4 = nI i' ∧ rowIs T A' (rwT T i') ∧ bdT T i' ∧ ma A' 6 = ma A 6 ∧ ∀ j, i ≤ j → j < i' → okT T j = true) ∨
    (∃ i' A', i ≤ i' ∧ i' ≤ tT T ∧ fX6_readsItem (nI (nT T)) A = some (false, A') ∧ stayM T A' ∧ mi A' 4 = nI i' ∧ (∀ j, i ≤ j → j < i' → okT T j = true) ∧ ((i' < tT T ∧ okT T i' = false) ∨ (i' = tT T ∧ ahT T i' = 64))) := by
  have ht := hT.2.1
  have hle := rwT_le T i
  have h2 : ma A 2 = ma T 2 := h.2.1 2 (by decide) (by decide) (by decide) (by decide)
  have hxx : (12 : Int32) * nI (nT T) + nI (rwT T i).1 = nI (12 * nT T + (rwT T i).1) := x12
  have hnot43 : ma T 2 i = 43 → okT T i = false := by
    intro e
    unfold okT
    rw [if_neg hbd.1, if_pos e, show decide (i = 0) = false from decide_eq_false (fun z => hbd.2.2 hi ⟨z, by rw [← z]; exact e⟩)]; rfl
  have hnot64 : ma T 2 i = 64 → okT T i = false := by
    intro e
    unfold okT
    rw [if_neg hbd.1, if_neg (by rw [e]; decide), if_pos e, decide_eq_false (hbd.2.1 hi e)]
  unfold fX6_readsItem
  rw [ck_in (inb_nI hn (by decide)), cl_nI (by omega), hrow.1, hxx, bnd_s, hp, ck_in (inb_nI (by omega) (by decide)), cl_nI (by omega), h2, bnd_s, m_nameHere hT h (by omega) hp, ob1_s, if_bi, show decide (i < tT T) = true from decide_eq_true hi, Bool.true_and]
  -- an item that stands: written, and on
  let A1 := maW A 4 (12 * nT T + (rwT T i).1) (fX6_sortOfItem (ma T 2 i))
  have hs1 : stayM T A1 := stay_4 h (by omega) _
  have go73 : ∀ w : Int32, w = (if fX6_sortOfItem (ma T 2 i) = 5 then ma T 2 i - 65 else -9) → ma T 2 i ≠ 43 → ma T 2 i ≠ 64 → okT T i = true →
      ((∃ i' A', i < i' ∧ i' ≤ tT T ∧ bX6_readsItem_73 (nI (nT T)) (nI (12 * nT T + (rwT T i).1)) (fX6_sortOfItem (ma T 2 i)) (nI (12 * nT T + (rwT T i).1)) w A1 = some (true, A') ∧ stayM T A' ∧ mi A' 4 = nI i' ∧ rowIs T A' (rwT T i') ∧ bdT T i' ∧ ma A' 6 = ma A 6 ∧ ∀ j, i ≤ j → j < i' → okT T j = true) ∨
      (∃ i' A', i ≤ i' ∧ i' ≤ tT T ∧ bX6_readsItem_73 (nI (nT T)) (nI (12 * nT T + (rwT T i).1)) (fX6_sortOfItem (ma T 2 i)) (nI (12 * nT T + (rwT T i).1)) w A1 = some (false, A') ∧ stayM T A' ∧ mi A' 4 = nI i' ∧ (∀ j, i ≤ j → j < i' → okT T j = true) ∧ ((i' < tT T ∧ okT T i' = false) ∨ (i' = tT T ∧ ahT T i' = 64)))) := by
    intro w hw h43 h64 hok
    let A2 := maW A1 5 (12 * nT T + (rwT T i).1) w
    let A3 := miW A2 4 (nI (i + 1))
    have hs3 : stayM T A3 := stay_p (stay_5 hs1 (by omega) _) _
    have h24 : mi A2 4 = nI i := hp
    have h34 : mi A3 4 = nI (i + 1) := mi_miW _ 4 _
    have h32 : mi A3 2 = nI (tT T) := by rw [hs3.1 2 (by omega)]; exact ht.1
    have hm32 : ma A3 2 = ma T 2 := hs3.2.1 2 (by decide) (by decide) (by decide) (by decide)
    have hr1 : rwT T (i + 1) = ((rwT T i).1 + 1, upd (rwT T i).2.1 (rwT T i).1 (fX6_sortOfItem (ma T 2 i)), upd (rwT T i).2.2 (rwT T i).1 w) := by
      show (if i = 0 ∧ ma T 2 0 = 43 then _ else if ahT T i = 64 then _ else if ma T 2 i = 64 then _ else _) = _
      rw [if_neg (hbd.2.2 hi), if_neg hbd.1, if_neg h64, hw]
    have h3n : ma A3 3 (nT T) = nI (rwT T i).1 := by
      show ma (maW A1 5 _ w) 3 (nT T) = _
      rw [ma_maW' _ _ _ (by decide), ma_maW' _ _ _ (by decide)]; exact hrow.1
    have h34m : ma A3 4 = upd (ma A 4) (12 * nT T + (rwT T i).1) (fX6_sortOfItem (ma T 2 i)) := by
      show ma (maW A1 5 _ w) 4 = _
      rw [ma_maW' _ _ _ (by decide), ma_maW]
    have h35m : ma A3 5 = upd (ma A 5) (12 * nT T + (rwT T i).1) w := by
      show ma (maW A1 5 _ w) 5 = _
      rw [ma_maW, show ma A1 5 = ma A 5 from ma_maW' A _ _ (by decide)]
    have h36 : ma A3 6 = ma A 6 := by
      show ma (maW A1 5 _ w) 6 = _
      rw [ma_maW' _ _ _ (by decide), ma_maW' _ _ _ (by decide)]
    have e160 : ∀ (E : MS) (c : Nat), stayM T E → ma E 3 (nT T) = nI c → c < 12 → bX6_readsItem_160 (nI (nT T)) E = some (true, maW E 3 (nT T) (nI (c + 1))) := by
      intro E c hE hc _
      unfold bX6_readsItem_160
      rw [ck_in (inb_nI hn (by decide)), ck_in (inb_nI hn (by decide)), cl_nI (by omega), hc, bnd_s, nI_1]
    have ah1 : ahT T (i + 1) = ma T 2 i := rfl
    have plain : (ma T 2 i = 113 → i + 1 < tT T → ma T 2 (i + 1) ≠ 64) → (∃ i' A', i < i' ∧ i' ≤ tT T ∧ bX6_readsItem_160 (nI (nT T)) A3 = some (true, A') ∧ stayM T A' ∧ mi A' 4 = nI i' ∧ rowIs T A' (rwT T i') ∧ bdT T i' ∧ ma A' 6 = ma A 6 ∧ ∀ j, i ≤ j → j < i' → okT T j = true) := by
      intro hq
      refine ⟨i + 1, maW A3 3 (nT T) (nI ((rwT T i).1 + 1)), by omega, by omega, e160 A3 _ hs3 h3n (by omega), stay_3 hs3 _, h34, ?_, ?_, ?_, ?_⟩
      · rw [hr1]
        refine ⟨by show ma (maW A3 3 _ _) 3 _ = _; rw [ma_maW, upd_s], fun m hm => ?_⟩
        show ma (maW A3 3 _ _) 4 _ = _ ∧ ma (maW A3 3 _ _) 5 _ = _
        have hm : m < (rwT T i).1 + 1 := hm
        rw [ma_maW' _ _ _ (by decide), ma_maW' _ _ _ (by decide), h34m, h35m]
        by_cases e : m = (rwT T i).1
        · subst e; rw [upd_s, upd_s]; exact ⟨(upd_s _ _ _).symm, (upd_s _ _ _).symm⟩
        · rw [upd_n _ _ (by omega), upd_n _ _ (by omega)]
          show _ = upd _ _ _ m ∧ _ = upd _ _ _ m
          rw [upd_n _ _ e, upd_n _ _ e]
          exact hrow.2 m (by omega)
      · refine ⟨by rw [ah1]; exact h64, fun hlt h64' => ?_, fun _ z => by omega⟩
        rw [ah1]
        intro z
        exact hq z hlt h64'
      · rw [ma_maW' _ _ _ (by decide)]; exact h36
      · intro j h1 h2
        have : j = i := by omega
        subst this; exact hok
    unfold bX6_readsItem_73
    rw [ck_in (inb_nI (by omega) (by decide)), cl_nI (by omega), bnd_s]
    show ((∃ i' A', i < i' ∧ i' ≤ tT T ∧ bnd (miW A2 4 (mi A2 4 + 1)) _ = _ ∧ _) ∨ (∃ i' A', i ≤ i' ∧ i' ≤ tT T ∧ bnd (miW A2 4 (mi A2 4 + 1)) _ = _ ∧ _))
    rw [h24, nI_1, bnd_s]
    show ((∃ i' A', i < i' ∧ i' ≤ tT T ∧ (if fX6_sortOfItem (ma T 2 i) = 0 then (if mi A3 2 ≤ mi A3 4 then _ else ck (mi A3 4) 12 (if ma A3 2 (mi A3 4).toNatClampNeg = 64 then _ else _)) else _) = _ ∧ _) ∨ (∃ i' A', i ≤ i' ∧ i' ≤ tT T ∧ (if fX6_sortOfItem (ma T 2 i) = 0 then (if mi A3 2 ≤ mi A3 4 then _ else ck (mi A3 4) 12 (if ma A3 2 (mi A3 4).toNatClampNeg = 64 then _ else _)) else _) = _ ∧ _))
    by_cases hq : fX6_sortOfItem (ma T 2 i) = 0
    · have hc113 : ma T 2 i = 113 := by
        rcases sort_cases (ma T 2 i) with ⟨a, b⟩ | ⟨a, b⟩ | ⟨a, b⟩ | ⟨a, b⟩ | ⟨a, b⟩ | ⟨_, _, _, _, _, b⟩
        · exact a
        all_goals (rw [b] at hq; exact absurd hq (by decide))
      rw [if_pos hq, h32, h34]
      by_cases hlast : i + 1 < tT T
      · rw [if_neg (nI_ge hlast (by omega)), ck_in (inb_nI (by omega) (by decide)), cl_nI (by omega), hm32]
        by_cases hat : ma T 2 (i + 1) = 64
        · rw [if_pos hat]
          have hok1 : okT T (i + 1) = true := by
            unfold okT
            rw [ah1, hc113, if_neg (by decide), if_neg (by rw [hat]; decide), if_pos hat]; rfl
          let A4 := miW A3 4 (nI (i + 2))
          have hs4 : stayM T A4 := stay_p hs3 _
          have h44 : mi A4 4 = nI (i + 2) := mi_miW _ 4 _
          rw [nI_1, bnd_s]
          show ((∃ i' A', i < i' ∧ i' ≤ tT T ∧ ob1 (fX6_isNameHere A4) _ = _ ∧ _) ∨ (∃ i' A', i ≤ i' ∧ i' ≤ tT T ∧ ob1 (fX6_isNameHere A4) _ = _ ∧ _))
          rw [m_nameHere hT hs4 (i := i + 2) (by omega) h44, ob1_s, if_bi]
          have ah2 : ahT T (i + 2) = 64 := hat
          by_cases hnm : (decide (i + 2 < tT T) && nmT T (ma T 2 (i + 2))) = true
          · have hlt2 : i + 2 < tT T := by
              rw [Bool.and_eq_true] at hnm
              exact of_decide_eq_true hnm.1
            have hnm2 : nmT T (ma T 2 (i + 2)) = true := by
              rw [Bool.and_eq_true] at hnm
              exact hnm.2
            have hok2 : okT T (i + 2) = true := by
              unfold okT
              rw [if_pos ah2]; exact hnm2
            have hne := nm_ne hnm2
            left
            rw [if_pos hnm, h44, ck_in (inb_nI (by omega) (by decide)), cl_nI (by omega), ck_in (inb_nI (by omega) (by decide)), bnd_s, show ma A4 2 = ma T 2 from hm32]
            let A5 := maW A4 5 (12 * nT T + (rwT T i).1) (ma T 2 (i + 2) - 65)
            let A6 := miW A5 4 (nI (i + 3))
            have hs6 : stayM T A6 := stay_p (stay_5 hs4 (by omega) _) _
            have h54 : mi A5 4 = nI (i + 2) := h44
            have h63n : ma A6 3 (nT T) = nI (rwT T i).1 := by
              show ma (maW A4 5 _ _) 3 (nT T) = _
              rw [ma_maW' _ _ _ (by decide)]; exact h3n
            show ∃ i' A', i < i' ∧ i' ≤ tT T ∧ bnd (miW A5 4 (mi A5 4 + 1)) _ = _ ∧ _
            rw [h54, nI_1, bnd_s]
            have hr2 : rwT T (i + 2) = rwT T (i + 1) := by
              show (if i + 1 = 0 ∧ ma T 2 0 = 43 then _ else if ahT T (i + 1) = 64 then _ else if ma T 2 (i + 1) = 64 then rwT T (i + 1) else _) = _
              rw [if_neg (by omega), if_neg (by rw [ah1, hc113]; decide), if_pos hat]
            have hr3 : rwT T (i + 3) = ((rwT T i).1 + 1, upd (rwT T i).2.1 (rwT T i).1 (fX6_sortOfItem (ma T 2 i)), upd (upd (rwT T i).2.2 (rwT T i).1 w) (rwT T i).1 (ma T 2 (i + 2) - 65)) := by
              show (if i + 2 = 0 ∧ ma T 2 0 = 43 then _ else if ahT T (i + 2) = 64 then ((rwT T (i + 2)).1, (rwT T (i + 2)).2.1, upd (rwT T (i + 2)).2.2 ((rwT T (i + 2)).1 - 1) (ma T 2 (i + 2) - 65)) else _) = _
              rw [if_neg (by omega), if_pos ah2, hr2, hr1]
              rfl
            refine ⟨i + 3, maW A6 3 (nT T) (nI ((rwT T i).1 + 1)), by omega, by omega, e160 A6 _ hs6 h63n (by omega), stay_3 hs6 _, (mi_miW A5 4 (nI (i + 3)) :), ?_, ?_, ?_, ?_⟩
            · rw [hr3]
              refine ⟨by show ma (maW A6 3 _ _) 3 _ = _; rw [ma_maW, upd_s], fun m hm => ?_⟩
              have hm : m < (rwT T i).1 + 1 := hm
              show ma (maW A6 3 _ _) 4 _ = _ ∧ ma (maW A6 3 _ _) 5 _ = _
              have h64m : ma A6 4 = upd (ma A 4) (12 * nT T + (rwT T i).1) (fX6_sortOfItem (ma T 2 i)) := by
                show ma (maW A4 5 _ _) 4 = _
                rw [ma_maW' _ _ _ (by decide)]; exact h34m
              have h65m : ma A6 5 = upd (upd (ma A 5) (12 * nT T + (rwT T i).1) w) (12 * nT T + (rwT T i).1) (ma T 2 (i + 2) - 65) := by
                show ma (maW A4 5 _ _) 5 = _
                rw [ma_maW, show ma A4 5 = ma A3 5 from rfl, h35m]
              rw [ma_maW' _ _ _ (by decide), ma_maW' _ _ _ (by decide), h64m, h65m]
              by_cases e : m = (rwT T i).1
              · subst e; rw [upd_s, upd_s]; exact ⟨(upd_s _ _ _).symm, (upd_s _ _ _).symm⟩
              · rw [upd_n _ _ (by omega), upd_n _ _ (by omega), upd_n _ _ (by omega)]
                show _ = upd _ _ _ m ∧ _ = upd (upd _ _ _) _ _ m
                rw [upd_n _ _ e, upd_n _ _ e, upd_n _ _ e]
                exact hrow.2 m (by omega)
            · have ah3 : ahT T (i + 3) = ma T 2 (i + 2) := rfl
              exact ⟨by rw [ah3]; exact hne.1, fun _ _ => by rw [ah3]; exact hne.2.1, fun _ z => by omega⟩
            · rw [ma_maW' _ _ _ (by decide)]
              show ma (maW A4 5 _ _) 6 = _
              rw [ma_maW' _ _ _ (by decide)]; exact h36
            · intro j h1 h2
              rcases (show j = i ∨ j = i + 1 ∨ j = i + 2 by omega) with rfl | rfl | rfl
              · exact hok
              · exact hok1
              · exact hok2
          · right
            rw [if_neg hnm]
            refine ⟨i + 2, A4, by omega, by omega, rfl, hs4, h44, ?_, ?_⟩
            · intro j h1 h2
              rcases (show j = i ∨ j = i + 1 by omega) with rfl | rfl
              · exact hok
              · exact hok1
            · by_cases q : i + 2 < tT T
              · left
                refine ⟨q, ?_⟩
                unfold okT
                rw [if_pos ah2]
                cases z : nmT T (ma T 2 (i + 2))
                · rfl
                · exact absurd (by rw [decide_eq_true q, z]; rfl) hnm
              · right
                exact ⟨by omega, ah2⟩
        · rw [if_neg hat]
          exact Or.inl (plain (fun _ _ => hat))
      · rw [if_pos (nI_le (by omega) (by omega))]
        exact Or.inl (plain (fun _ z => absurd z hlast))
    · rw [if_neg hq]
      refine Or.inl (plain (fun z _ => ?_))
      rw [z] at hq
      exact absurd (by decide) hq
  have go39 : ma T 2 i ≠ 43 → ma T 2 i ≠ 64 → okT T i = true → _ := fun a b c => go73 (if fX6_sortOfItem (ma T 2 i) = 5 then ma T 2 i - 65 else -9) rfl a b c
  have e39 : bX6_readsItem_39 (nI (nT T)) (nI (12 * nT T + (rwT T i).1)) (fX6_sortOfItem (ma T 2 i)) A = bX6_readsItem_73 (nI (nT T)) (nI (12 * nT T + (rwT T i).1)) (fX6_sortOfItem (ma T 2 i)) (nI (12 * nT T + (rwT T i).1)) (if fX6_sortOfItem (ma T 2 i) = 5 then ma T 2 i - 65 else -9) A1 := by
    unfold bX6_readsItem_39
    have h14 : mi A1 4 = nI i := hp
    have h12 : ma A1 2 = ma T 2 := hs1.2.1 2 (by decide) (by decide) (by decide) (by decide)
    rw [ck_in (inb_nI (by omega) (by decide)), cl_nI (by omega), bnd_s]
    show (if fX6_sortOfItem (ma T 2 i) = 5 then ck (mi A1 4) 12 (bX6_readsItem_73 _ _ _ _ (ma A1 2 (mi A1 4).toNatClampNeg - 65) A1) else _) = _
    rw [h14, ck_in (inb_nI (by omega) (by decide)), cl_nI (by omega), h12]
    by_cases q : fX6_sortOfItem (ma T 2 i) = 5
    · rw [if_pos q, if_pos q]
    · rw [if_neg q, if_neg q]
  rw [e39]
  by_cases h5 : fX6_sortOfItem (ma T 2 i) = 5
  · rw [if_pos h5]
    have hsc : ma T 2 i ≠ 113 ∧ ma T 2 i ≠ 118 ∧ ma T 2 i ≠ 111 ∧ ma T 2 i ≠ 104 ∧ ma T 2 i ≠ 115 := by
      rcases sort_cases (ma T 2 i) with ⟨a, b⟩ | ⟨a, b⟩ | ⟨a, b⟩ | ⟨a, b⟩ | ⟨a, b⟩ | ⟨a1, a2, a3, a4, a5, b⟩
      · rw [b] at h5; exact absurd h5 (by decide)
      · rw [b] at h5; exact absurd h5 (by decide)
      · rw [b] at h5; exact absurd h5 (by decide)
      · rw [b] at h5; exact absurd h5 (by decide)
      · rw [b] at h5; exact absurd h5 (by decide)
      · exact ⟨a1, a2, a3, a4, a5⟩
    cases hnm : nmT T (ma T 2 i)
    · rw [if_neg (by simp)]
      right
      refine ⟨i, A, Nat.le_refl _, by omega, rfl, h, hp, fun j h1 h2 => by omega, Or.inl ⟨hi, ?_⟩⟩
      by_cases e43 : ma T 2 i = 43
      · exact hnot43 e43
      · by_cases e64 : ma T 2 i = 64
        · exact hnot64 e64
        · unfold okT
          rw [if_neg hbd.1, if_neg e43, if_neg e64, if_neg (fun z => by rcases z with z | z | z | z | z; exact hsc.2.2.2.1 z; exact hsc.2.2.1 z; exact hsc.1 z; exact hsc.2.2.2.2 z; exact hsc.2.1 z)]
          exact hnm
    · rw [if_pos rfl]
      have hne := nm_ne hnm
      refine go39 hne.2.2.1 hne.1 ?_
      unfold okT
      rw [if_neg hbd.1, if_neg hne.2.2.1, if_neg hne.1, if_neg (fun z => by rcases z with z | z | z | z | z; exact hsc.2.2.2.1 z; exact hsc.2.2.1 z; exact hsc.1 z; exact hsc.2.2.2.2 z; exact hsc.2.1 z)]
      exact hnm
  · rw [if_neg h5]
    have hsc : ma T 2 i = 104 ∨ ma T 2 i = 111 ∨ ma T 2 i = 113 ∨ ma T 2 i = 115 ∨ ma T 2 i = 118 := by
      rcases sort_cases (ma T 2 i) with ⟨a, b⟩ | ⟨a, b⟩ | ⟨a, b⟩ | ⟨a, b⟩ | ⟨a, b⟩ | ⟨_, _, _, _, _, b⟩
      · exact Or.inr (Or.inr (Or.inl a))
      · exact Or.inr (Or.inr (Or.inr (Or.inr a)))
      · exact Or.inr (Or.inl a)
      · exact Or.inl a
      · exact Or.inr (Or.inr (Or.inr (Or.inl a)))
      · exact absurd b h5
    have n43 : ma T 2 i ≠ 43 := by rcases hsc with z | z | z | z | z <;> rw [z] <;> decide
    have n64 : ma T 2 i ≠ 64 := by rcases hsc with z | z | z | z | z <;> rw [z] <;> decide
    refine go39 n43 n64 ?_
    unfold okT
    rw [if_neg hbd.1, if_neg n43, if_neg n64, if_pos hsc]
