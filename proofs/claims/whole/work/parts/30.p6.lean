/-! own sets and links of the class are the reference's -/
theorem tb_nI8 {x : Int32} (h : S8 x) {p : Nat} : tb x p = true → p < 8 := fun q => by
  rcases Nat.lt_or_ge p 8 with h1 | h1
  · exact h1
  · rw [h p h1] at q; cases q
theorem S8.ext' {x y : Int32} (hx : S8 x) (hy : S8 y) (h : ∀ p, p < 8 → (tb x p = true ↔ tb y p = true)) : x = y := S8.ext hx hy (fun p hp => by
  have := h p hp
  cases h1 : tb x p <;> cases h2 : tb y p
  · rfl
  · rw [h1, h2] at this; simp at this
  · rw [h1, h2] at this; simp at this
  · rfl)
def asB (S : XS) (s : Int32) (p : Nat) : Int32 := if xa S 2 p = s then (1 : Int32) <<< (nI p &&& 31) else 0
theorem x_allOfSort {S : XS} {T : MS} (h : Rel S T) {s : Int32} (hs : s ≠ -9) : fX2_allOfSort s S = some (soT T s) := by
  have e : orN (asB S s) 8 &&& xi S 2 = soT T s := by
    rw [h.2.2.2.1]
    have hS : S8 (orN (asB S s) 8) := by
      intro p hp
      cases hb : tb (orN (asB S s) 8) p
      · rfl
      · obtain ⟨i, h1, h2⟩ := (tb_orN _ _ _).mp hb
        unfold asB at h2
        by_cases h9 : xa S 2 i = s
        · rw [if_pos h9, tb_sh (by omega)] at h2
          have := of_decide_eq_true h2
          omega
        · rw [if_neg h9, tb_0] at h2; cases h2
    refine S8.ext' (hS.and _) (S8_soT T s) (fun p hp => ?_)
    rw [tb_and, Bool.and_eq_true, tb_orN, tb_thT, tb_soT]
    constructor
    · rintro ⟨⟨i, h1, h2⟩, -, h3⟩
      unfold asB at h2
      by_cases h9 : xa S 2 i = s
      · rw [if_pos h9, tb_sh (by omega)] at h2
        have := of_decide_eq_true h2
        subst this
        exact ⟨hp, by rw [← h.2.2.2.2.1 p hp h3]; exact h9⟩
      · rw [if_neg h9, tb_0] at h2; cases h2
    · rintro ⟨-, h1⟩
      have h3 : ma T 1 p ≠ -9 := by rw [h1]; exact hs
      refine ⟨⟨p, hp, ?_⟩, hp, h3⟩
      unfold asB
      rw [if_pos (by rw [h.2.2.2.2.1 p hp h3]; exact h1), tb_sh (by omega)]
      simp
  unfold fX2_allOfSort
  refine lp_go _ (fun j => (s, orN (asB S s) j, nI j, S)) _ 8 (by omega) ?_ ?_
  · intro j hj k0
    dsimp only
    unfold bX2_allOfSort_4
    rw [if_neg (ge8n hj), ck_in (inb_nI hj (by decide)), cl_nI (by omega), x_bitOf hj]
    by_cases h9 : xa S 2 j = s
    · rw [if_pos h9]; simp only [bnd, orN, asB, if_pos h9, nI_1]
    · rw [if_neg h9]; simp only [orN, asB, if_neg h9, nI_1, or_0]
  · intro k0
    dsimp only
    unfold bX2_allOfSort_4
    rw [if_pos ge8, e]
theorem rule_bits : ∀ v, v < 16 → ((nI v &&& 1 = 0 ↔ tb (nI v) 0 = false) ∧ (nI v &&& 2 = 0 ↔ tb (nI v) 1 = false) ∧ (nI v &&& 4 = 0 ↔ tb (nI v) 2 = false) ∧ (nI v &&& 8 = 0 ↔ tb (nI v) 3 = false)) := by decide +kernel
theorem tb_bitw {w : Int32} (hw : w = -9 ∨ ∃ q, q < 8 ∧ w = nI q) (p : Nat) : tb (bitw w) p = true ↔ w = nI p ∧ p < 8 := by
  unfold bitw
  rcases hw with rfl | ⟨q, hq, rfl⟩
  · rw [if_pos rfl, tb_0]
    constructor
    · intro h; cases h
    · rintro ⟨h, hp⟩
      have : nI p = -9 := h.symm
      have h0 : ¬ nI p < 0 := nI_pos (by omega)
      rw [this] at h0
      exact absurd (by decide) h0
  · have hne : nI q ≠ -9 := by
      intro e
      have h0 : ¬ nI q < 0 := nI_pos (by omega)
      rw [e] at h0
      exact absurd (by decide) h0
    rw [if_neg hne, tb_sh (by omega)]
    constructor
    · intro h
      have := of_decide_eq_true h
      subst this
      exact ⟨rfl, hq⟩
    · rintro ⟨h, hp⟩
      have := (nI_eq (by omega) (by omega)).mp h
      simp [this]
theorem wh_ok {T : MS} {k i : Nat} (h : rowOk T k) (hi : i < cT T k) : whT T k i = -9 ∨ ∃ q, q < 8 ∧ whT T k i = nI q := by
  rcases h.2 i hi with ⟨_, e⟩ | ⟨_, e⟩ | ⟨_, e⟩
  · exact e
  · exact Or.inl e
  · exact Or.inr e
theorem wh_name {T : MS} {k i : Nat} (h : rowOk T k) (hi : i < cT T k) (h5 : itT T k i = 5) : ∃ q, q < 8 ∧ whT T k i = nI q := by
  rcases h.2 i hi with ⟨e, _⟩ | ⟨e | e | e | e, _⟩ | ⟨_, e⟩
  · rw [h5] at e; exact absurd e (by decide)
  · rw [h5] at e; exact absurd e (by decide)
  · rw [h5] at e; exact absurd e (by decide)
  · rw [h5] at e; exact absurd e (by decide)
  · rw [h5] at e; exact absurd e (by decide)
  · exact e
theorem nI_ne9 {q : Nat} (hq : q < 8) : nI q ≠ -9 := by
  intro e
  have h0 : ¬ nI q < 0 := nI_pos (by omega)
  rw [e] at h0
  exact absurd (by decide) h0
theorem bitw_sh {w : Int32} (h : w ≠ -9) : (1 : Int32) <<< (w &&& 31) = bitw w := by unfold bitw; rw [if_neg h]
theorem tb_owL (T : MS) (k j p : Nat) : tb (owL T k j) p = true ↔ (tb (ma T 7 k) p = true ∧ tb (thT T) p = true) ∧ ∀ i, i < j → tb (aT T k i) p = true ∧ tb (bT T k i) p = true := by
  induction j with
  | zero => simp [owL, tb_and]
  | succ j ih =>
    simp only [owL, tb_and, Bool.and_eq_true, ih]
    constructor
    · rintro ⟨⟨⟨h1, h2⟩, h3⟩, h4⟩
      refine ⟨h1, fun i hi => ?_⟩
      rcases Nat.lt_or_ge i j with h | h
      · exact h2 i h
      · have : i = j := by omega
        subst this
        exact ⟨h3, h4⟩
    · rintro ⟨h1, h2⟩
      exact ⟨⟨⟨h1, fun i hi => h2 i (by omega)⟩, (h2 j (by omega)).1⟩, (h2 j (by omega)).2⟩
theorem tb_aT {T : MS} {k i p : Nat} (h : rowOk T k) (hi : i < cT T k) (hp : p < 8) : tb (aT T k i) p = true ↔ (tb (mi T 1) 0 = true → itT T k i = 0 → ¬ tb (bitw (whT T k i)) p = true) := by
  unfold aT
  by_cases hc : (itT T k i = 0 ∧ whT T k i ≠ -9) ∧ tb (mi T 1) 0 = true
  · rw [if_pos hc, bitw_sh hc.1.2, tb_not (by omega)]
    simp [hc.1.1, hc.2]
  · rw [if_neg hc, tb_255]
    simp only [hp, decide_true, true_iff]
    intro h1 h2 h3
    have h4 := (tb_bitw (wh_ok h hi) p).mp h3
    exact hc ⟨⟨h2, by rw [h4.1]; exact nI_ne9 hp⟩, h1⟩
theorem tb_bT {T : MS} {k i p : Nat} (h : rowOk T k) (hi : i < cT T k) (hp : p < 8) : tb (bT T k i) p = true ↔ (tb (mi T 1) 1 = true → cnsT T k (nI i) = true → (itT T k (whoN T k i) = 3 → tb (soT T 0) p = true) ∧ (itT T k (whoN T k i) = 4 → tb (soT T 1) p = true) ∧ (itT T k (whoN T k i) = 5 → tb (bitw (whT T k (whoN T k i))) p = true)) := by
  unfold bT
  by_cases hc : cnsT T k (nI i) = true ∧ tb (mi T 1) 1 = true
  · rw [if_pos hc]
    have hw : whoT T k (nI i) ≠ -9 := by
      have := hc.1
      unfold cnsT at this
      exact (of_decide_eq_true this).2.1
    obtain ⟨j, hj, e, e3⟩ := who_ok h hw
    have hN : whoN T k i = j := by unfold whoN; rw [e, cl_nI (by have := h.1.2; omega)]
    have hN2 : (whoT T k (nI i)).toNatClampNeg = j := hN
    rw [hN2, hN]
    unfold byT
    rcases e3 with e3 | e3 | e3
    · rw [if_pos e3]; simp [hc.1, hc.2, e3]
    · rw [if_neg (by rw [e3]; decide), if_pos e3]; simp [hc.1, hc.2, e3]
    · rw [if_neg (by rw [e3]; decide), if_neg (by rw [e3]; decide)]
      obtain ⟨q, hq, e5⟩ := wh_name h hj e3
      rw [bitw_sh (by rw [e5]; exact nI_ne9 hq)]
      simp [hc.1, hc.2, e3]
  · rw [if_neg hc, tb_255]
    simp only [hp, decide_true, true_iff]
    intro h1 h2
    exact absurd ⟨h2, h1⟩ hc
theorem x_ownSet {S : XS} {T : MS} (h : Rel S T) {k : Nat} (hk : k < nT T) : fX1_ownSet k (mi T 1) S = some (owT T k) := by
  have hn := h.1.1
  obtain ⟨hr, hm⟩ := h.1.2.2.2.2.2 k hk
  obtain ⟨v, hv, hR⟩ := h.1.2.2.2.2.1
  obtain ⟨rb0, rb1, rb2, -⟩ := rule_bits v hv
  rw [← hR] at rb0 rb1 rb2
  obtain ⟨-, -, p4, p5, -, -, p8, -, p10, p11, p12, p13⟩ := h.2.2.2.2.2.2.2.2.1 k hk
  -- the set behind the doing rule
  have key : ∀ x : Int32, S8 x → (∀ p, p < 8 → (tb x p = true ↔ (tb (ma T 7 k) p = true ∧ tb (thT T) p = true) ∧ ∀ i, i < cT T k → tb (aT T k i) p = true ∧ tb (bT T k i) p = true)) → bX1_ownSet_80 k (mi T 1) x S = some (owT T k) := by
    intro x hx8 hx
    have ex : x = owL T k (cT T k) := S8.ext' hx8 (S8_owL T k hm.2.1 _) (fun p hp => by rw [hx p hp, tb_owL])
    subst ex
    have e93 : ∀ y : Int32, bX1_ownSet_93 k y S = some (if ma T 8 k = -9 then y else y &&& ma T 8 k) := by
      intro y
      unfold bX1_ownSet_93
      rw [p5]
      by_cases h9 : ma T 8 k = -9
      · rw [if_pos h9, if_pos h9]
      · rw [if_neg h9, if_neg h9]
    unfold bX1_ownSet_80 owT owD
    rw [bnd_s, e93, e93, p13]
    unfold doT
    cases h2 : tb (mi T 1) 2
    · rw [if_pos (rb2.mpr h2)]; simp
    · rw [if_neg (fun q => by rw [rb2.mp q] at h2; cases h2)]
      by_cases hd : vcT T k = 0 ∧ kdT T k 0 = 5 ∧ kdT T k 1 = 2
      · have hd' : true = true ∧ vcT T k = 0 ∧ kdT T k 0 = 5 ∧ kdT T k 1 = 2 := ⟨rfl, hd⟩
        rw [if_pos hd, if_pos hd']
        have h0 : 0 < cT T k := by
          have : kdT T k 0 ≠ -1 := by rw [hd.2.1]; decide
          obtain ⟨j, hj, -, -⟩ := kd_in hr.1.2 this
          omega
        have h5 : itT T k 0 = 5 := by rw [← kd_nI hr.1.2 h0]; exact hd.2.1
        obtain ⟨q, hq, e5⟩ := wh_name hr h0 h5
        rw [bitw_sh (by rw [e5]; exact nI_ne9 hq)]
      · have hd' : ¬ (true = true ∧ vcT T k = 0 ∧ kdT T k 0 = 5 ∧ kdT T k 1 = 2) := fun q => hd q.2
        rw [if_neg hd, if_neg hd', and_255 (S8_owL T k hm.2.1 _)]
  -- the verbs' rule
  have key2 : ∀ x : Int32, S8 x → (∀ p, p < 8 → (tb x p = true ↔ (tb (ma T 7 k) p = true ∧ tb (thT T) p = true) ∧ ∀ i, i < cT T k → tb (aT T k i) p = true)) → bX1_ownSet_25 k (mi T 1) x S = some (owT T k) := by
    intro x hx8 hx
    unfold bX1_ownSet_25
    cases h1 : tb (mi T 1) 1
    · rw [if_pos (rb1.mpr h1)]
      refine key x hx8 (fun p hp => ?_)
      rw [hx p hp]
      constructor
      · rintro ⟨a, b⟩
        exact ⟨a, fun i hi => ⟨b i hi, (tb_bT hr hi hp).mpr (fun q => by rw [h1] at q; cases q)⟩⟩
      · rintro ⟨a, b⟩
        exact ⟨a, fun i hi => (b i hi).1⟩
    · rw [if_neg (fun q => by rw [rb1.mp q] at h1; cases h1), p10, p11, x_allOfSort h (by decide), bnd_s, ob1_s]
      have e57 : ∀ y : Int32, bX1_ownSet_57 k (mi T 1) (x &&& vnT T k) y S = bX1_ownSet_80 k (mi T 1) ((x &&& vnT T k &&& y) &&& (if shT T k = true then soT T 1 else 255)) S := by
        intro y
        unfold bX1_ownSet_57
        rw [p12, x_allOfSort h (by decide), bnd_s, ob1_s, if_bi]
        cases shT T k
        · rfl
        · rfl
      rw [e57, e57]
      have fin : ∀ y, y = (if heT T k = true then soT T 0 else 255) → bX1_ownSet_80 k (mi T 1) ((x &&& vnT T k &&& y) &&& (if shT T k = true then soT T 1 else 255)) S = some (owT T k) := by
        intro y hy
        refine key _ (((hx8.and _).and _).and _) (fun p hp => ?_)
        have vn : tb (vnT T k) p = true ↔ ∀ i, i < cT T k → cnsT T k (nI i) = true → itT T k (whoN T k i) = 5 → tb (bitw (whT T k (whoN T k i))) p = true := by
          unfold vnT
          rw [tb_andN _ _ hp]
          constructor
          · intro q i hi c1 c2
            have := q i hi
            rw [if_pos ⟨c1, c2⟩] at this
            exact this
          · intro q i hi
            by_cases cc : cnsT T k (nI i) = true ∧ itT T k (whoN T k i) = 5
            · rw [if_pos cc]; exact q i hi cc.1 cc.2
            · rw [if_neg cc, tb_255]; simp [hp]
        have he : tb y p = true ↔ ∀ i, i < cT T k → cnsT T k (nI i) = true → itT T k (whoN T k i) = 3 → tb (soT T 0) p = true := by
          rw [hy]
          cases hh : heT T k
          · rw [if_neg (by simp), tb_255]
            simp only [hp, decide_true, true_iff]
            intro i hi c1 c2
            have : heT T k = true := by
              unfold heT
              rw [anyN_iff]
              exact ⟨i, hi, by simp [c1, c2]⟩
            rw [hh] at this; cases this
          · rw [if_pos rfl]
            constructor
            · intro q i _ _ _; exact q
            · intro q
              unfold heT at hh
              obtain ⟨i, hi, c⟩ := (anyN_iff _ _).mp hh
              simp only [Bool.and_eq_true, decide_eq_true_eq] at c
              exact q i hi c.1 c.2
        have sh : tb (if shT T k = true then soT T 1 else 255) p = true ↔ ∀ i, i < cT T k → cnsT T k (nI i) = true → itT T k (whoN T k i) = 4 → tb (soT T 1) p = true := by
          cases hh : shT T k
          · rw [if_neg (by simp), tb_255]
            simp only [hp, decide_true, true_iff]
            intro i hi c1 c2
            have : shT T k = true := by
              unfold shT
              rw [anyN_iff]
              exact ⟨i, hi, by simp [c1, c2]⟩
            rw [hh] at this; cases this
          · rw [if_pos rfl]
            constructor
            · intro q i _ _ _; exact q
            · intro q
              unfold shT at hh
              obtain ⟨i, hi, c⟩ := (anyN_iff _ _).mp hh
              simp only [Bool.and_eq_true, decide_eq_true_eq] at c
              exact q i hi c.1 c.2
        simp only [tb_and, Bool.and_eq_true]
        rw [hx p hp, vn, he, sh]
        constructor
        · rintro ⟨⟨⟨⟨a, b⟩, c⟩, d⟩, e⟩
          exact ⟨a, fun i hi => ⟨b i hi, (tb_bT hr hi hp).mpr (fun _ c1 => ⟨d i hi c1, e i hi c1, c i hi c1⟩)⟩⟩
        · rintro ⟨a, b⟩
          exact ⟨⟨⟨⟨a, fun i hi => (b i hi).1⟩, fun i hi c1 => ((tb_bT hr hi hp).mp (b i hi).2 h1 c1).2.2⟩, fun i hi c1 => ((tb_bT hr hi hp).mp (b i hi).2 h1 c1).1⟩, fun i hi c1 => ((tb_bT hr hi hp).mp (b i hi).2 h1 c1).2.1⟩
      rw [if_bi]
      cases hh : heT T k
      · rw [if_neg (by simp)]; exact fin _ (by rw [hh]; rfl)
      · rw [if_pos rfl]; exact fin _ (by rw [hh]; rfl)
  unfold fX1_ownSet fX2_thereSet
  rw [if_pos (by omega), p4, h.2.2.2.1, p8, bnd_s, bnd_s]
  have h8 : S8 (ma T 7 k &&& thT T) := hm.2.1.and _
  cases h0 : tb (mi T 1) 0
  · rw [if_pos (rb0.mpr h0)]
    refine key2 _ h8 (fun p hp => ?_)
    rw [tb_and, Bool.and_eq_true]
    constructor
    · intro a
      exact ⟨a, fun i hi => (tb_aT hr hi hp).mpr (fun q => by rw [h0] at q; cases q)⟩
    · intro a; exact a.1
  · rw [if_neg (fun q => by rw [rb0.mp q] at h0; cases h0)]
    refine key2 _ (h8.and _) (fun p hp => ?_)
    rw [tb_and, tb_and, tb_not (by omega)]
    simp only [Bool.and_eq_true, Bool.not_eq_true']
    have st : tb (stT T k) p = false ↔ ∀ i, i < cT T k → itT T k i = 0 → ¬ tb (bitw (whT T k i)) p = true := by
      have q := tb_orN (fun i => if itT T k i = 0 then bitw (whT T k i) else 0) (cT T k) p
      unfold stT
      constructor
      · intro e i hi c1 c2
        have : tb (orN (fun i => if itT T k i = 0 then bitw (whT T k i) else 0) (cT T k)) p = true := q.mpr ⟨i, hi, by rw [if_pos c1]; exact c2⟩
        rw [e] at this; cases this
      · intro e
        cases hb : tb (orN (fun i => if itT T k i = 0 then bitw (whT T k i) else 0) (cT T k)) p
        · rfl
        · obtain ⟨i, hi, c⟩ := q.mp hb
          by_cases c1 : itT T k i = 0
          · rw [if_pos c1] at c; exact absurd c (e i hi c1)
          · rw [if_neg c1, tb_0] at c; cases c
    rw [st]
    constructor
    · rintro ⟨a, b⟩
      exact ⟨a, fun i hi => (tb_aT hr hi hp).mpr (fun _ c => b i hi c)⟩
    · rintro ⟨a, b⟩
      exact ⟨a, fun i hi c => (tb_aT hr hi hp).mp (b i hi) h0 c⟩
