/-! the class notes verbs and doers of a row -/
def itmX (n : Nat) (A : MS) (S : XS) : Prop := xp S n 2 = nI (cT A n) ∧ (∀ m, m < cT A n → xq S n 0 m = kc (itT A n m)) ∧ ∀ m, m < cT A n → itT A n m = 5 → xq S n 1 m = whT A n m
theorem kd_cases {A : MS} {n : Nat} (h : rowOk A n) (x : Int32) : kdT A n x = -1 ∨ kdT A n x = 0 ∨ kdT A n x = 1 ∨ kdT A n x = 2 ∨ kdT A n x = 3 ∨ kdT A n x = 4 ∨ kdT A n x = 5 := by
  by_cases z : kdT A n x = -1
  · exact Or.inl z
  · obtain ⟨j, hj, -, e⟩ := kd_in h.1.2 z
    rw [e]
    exact Or.inr (it_ok h hj)
theorem kc_who {a : Int32} (h : a = -1 ∨ a = 0 ∨ a = 1 ∨ a = 2 ∨ a = 3 ∨ a = 4 ∨ a = 5) : fX1_isWho (kc a) = decide (3 ≤ a) ∧ (kc a = 118 ↔ a = 1) ∧ (kc a = 113 ↔ a = 0) ∧ (kc a = 65 ↔ a = 5) ∧ (kc a = 111 ↔ a = 2) ∧ (kc a = 104 ↔ a = 3) ∧ (kc a = 115 ↔ a = 4) := by
  rcases h with rfl | rfl | rfl | rfl | rfl | rfl | rfl <;> decide
theorem x_kindAt {A : MS} {S : XS} {n : Nat} (hn : n < 17) (h : rowOk A n) (hx : itmX n A S) (x : Int32) : fX1_kindAt n x S = some (kc (kdT A n x)) := by
  have hc := h.1.2
  unfold fX1_kindAt
  rw [if_pos hn, hx.1, x_within, if_bid]
  by_cases z : 0 ≤ x ∧ x < nI (cT A n)
  · obtain ⟨j, hj, rfl⟩ := (lt_nI (by omega)).mp z
    rw [if_pos z, if_neg (show ¬ (12 : Int32) ≤ nI j from nI_ge (b := 12) (by omega) (by omega)), ck_in (inb_nI (by omega) (by decide)), cl_nI (by omega), hx.2.1 j hj, kd_nI hc hj]
  · rw [if_neg z]
    have : kdT A n x = -1 := by
      unfold kdT
      rw [if_neg]
      intro w
      obtain ⟨j, hj, rfl⟩ := inb_ex (by omega) w
      exact z ((lt_nI (by omega)).mpr ⟨j, hj, rfl⟩)
    rw [this]; decide
theorem x_personAt {A : MS} {S : XS} {n : Nat} (hn : n < 17) (h : rowOk A n) (hx : itmX n A S) {j : Nat} (hj : j < cT A n) (h5 : itT A n j = 5) : fX1_personAt n (nI j) S = some (whT A n j) := by
  have hc := h.1.2
  unfold fX1_personAt
  rw [if_pos hn, hx.1, x_within, if_bid, if_pos ((lt_nI (by omega)).mpr ⟨j, hj, rfl⟩), if_neg (show ¬ (12 : Int32) ≤ nI j from nI_ge (b := 12) (by omega) (by omega)), ck_in (inb_nI (by omega) (by decide)), cl_nI (by omega), hx.2.2 j hj h5]
theorem x_whoPlace {A : MS} {S : XS} {n : Nat} (hn : n < 17) (h : rowOk A n) (hx : itmX n A S) (x : Int32) : fX1_whoPlace n x S = some (whoT A n x) := by
  unfold fX1_whoPlace whoT
  rw [if_pos hn, x_kindAt hn h hx, ob1_s, (kc_who (kd_cases h _)).1, if_bid, x_kindAt hn h hx, ob1_s, (kc_who (kd_cases h _)).1, if_bid]
  by_cases z : 3 ≤ kdT A n (x + 1)
  · rw [if_pos z, if_pos z]
  · rw [if_neg z, if_neg z]
    by_cases w : 3 ≤ kdT A n (x - 1)
    · rw [if_pos w, if_pos w]
    · rw [if_neg w, if_neg w]
theorem x_verbCounts {A : MS} {S : XS} {n : Nat} (hn : n < 17) (h : rowOk A n) (hx : itmX n A S) {i : Nat} (hi : i < cT A n) : fX1_verbCounts n (nI i) (whoT A n (nI i)) S = some (cnsT A n (nI i)) := by
  have hc := h.1.2
  unfold fX1_verbCounts cnsT
  rw [if_pos hn, x_kindAt hn h hx, ob1_s]
  by_cases h1 : kdT A n (nI i) = 1
  · rw [if_pos ((kc_who (kd_cases h _)).2.1.mpr h1)]
    by_cases h9 : whoT A n (nI i) = -9
    · rw [if_pos h9, decide_eq_false (fun z => z.2.1 h9)]
    · rw [if_neg h9, bnd_s, bnd_s, x_kindAt hn h hx, ob1_s, x_kindAt hn h hx, ob1_s]
      obtain ⟨w, hw, ew, -⟩ := who_ok h h9
      have hww : w = i + 1 ∨ w + 1 = i := by
        unfold whoT at ew h9
        by_cases z : 3 ≤ kdT A n (nI i + 1)
        · rw [if_pos z, nI_1] at ew
          exact Or.inl ((nI_eq (by omega) (by omega)).mp ew).symm
        · rw [if_neg z] at ew h9
          by_cases y : 3 ≤ kdT A n (nI i - 1)
          · rw [if_pos y] at ew
            by_cases i0 : i = 0
            · subst i0
              have h1 : (0 : Int32) ≤ nI w := nI_pos' (by omega)
              rw [← ew] at h1
              exact absurd h1 (by decide)
            · rw [nI_m1 (by omega)] at ew
              exact Or.inr (by have := (nI_eq (by omega) (by omega)).mp ew; omega)
          · rw [if_neg y] at h9; exact absurd rfl h9
      have e1 : (if whoT A n (nI i) < nI i then whoT A n (nI i) else nI i) - 1 = fstT A n (nI i) - 1 ∧ (if nI i < whoT A n (nI i) then whoT A n (nI i) else nI i) + 1 = fstT A n (nI i) + 2 := by
        unfold fstT
        rw [ew]
        rcases hww with rfl | e
        · rw [if_neg (fun z => absurd ((nI_ltI (a := i + 1) (b := i) (by omega) (by omega)).mp z) (by omega)), if_pos (nI_lt (by omega) (by omega)), if_pos (nI_le (by omega) (by omega))]
          exact ⟨rfl, by rw [nI_1, show (2 : Int32) = nI 2 from rfl, nI_add]⟩
        · have hwi : w < i := by omega
          rw [if_pos (nI_lt hwi (by omega)), if_neg (fun z => absurd ((nI_ltI (a := i) (b := w) (by omega) (by omega)).mp z) (by omega)), if_neg (nI_ge hwi (by omega)), nI_m1 (n := i) (by omega), show i - 1 = w by omega]
          exact ⟨rfl, by rw [show (2 : Int32) = nI 2 from rfl, nI_add, nI_1, show w + 2 = i + 1 by omega]⟩
      rw [e1.1, e1.2]
      by_cases ha : kdT A n (fstT A n (nI i) - 1) = 0
      · rw [if_pos ((kc_who (kd_cases h _)).2.2.1.mpr ha), decide_eq_true ⟨h1, h9, Or.inl ha⟩]
      · rw [if_neg (fun z => ha ((kc_who (kd_cases h _)).2.2.1.mp z))]
        by_cases hb : kdT A n (fstT A n (nI i) + 2) = 0
        · rw [if_pos ((kc_who (kd_cases h _)).2.2.1.mpr hb), decide_eq_true ⟨h1, h9, Or.inr hb⟩]
        · rw [if_neg (fun z => hb ((kc_who (kd_cases h _)).2.2.1.mp z)), decide_eq_false (fun z => by rcases z.2.2 with y | y; exact ha y; exact hb y)]
  · rw [if_neg (fun z => h1 ((kc_who (kd_cases h _)).2.1.mp z)), decide_eq_false (fun z => h1 z.1)]
/-- what noting verbs changes -/
def frV (n : Nat) (S S' : XS) : Prop := frP n S S' ∧ xq S' n = xq S n ∧ ∀ k, k ≠ 9 → k ≠ 10 → k ≠ 11 → k ≠ 12 → xp S' n k = xp S n k
theorem frV_p {n : Nat} {S B : XS} (h : frV n S B) {k : Nat} (v : Int32) (hk : k = 9 ∨ k = 10 ∨ k = 11 ∨ k = 12) : frV n S (xpW B n k v) := ⟨frP_p h.1 _ _, (xq_xpW B n k v).trans h.2.1, fun j a b c d => (xp_xpW' B n v (by rcases hk with rfl | rfl | rfl | rfl <;> assumption)).trans (h.2.2 j a b c d)⟩
theorem frV_itm {n : Nat} {A : MS} {S B : XS} (h : frV n S B) (hx : itmX n A S) : itmX n A B := by
  unfold itmX
  rw [h.2.1, h.2.2 2 (by decide) (by decide) (by decide) (by decide)]
  exact hx
def vnF (A : MS) (n i : Nat) : Int32 := if cnsT A n (nI i) = true ∧ itT A n (whoN A n i) = 5 then bitw (whT A n (whoN A n i)) else 255
def heF (A : MS) (n i : Nat) : Bool := cnsT A n (nI i) && decide (itT A n (whoN A n i) = 3)
def shF (A : MS) (n i : Nat) : Bool := cnsT A n (nI i) && decide (itT A n (whoN A n i) = 4)
theorem S8_andN (f : Nat → Int32) (j : Nat) : S8 (andN f j) := by
  induction j with
  | zero => exact S8_255
  | succ j ih => exact ih.and _
def vbX (n : Nat) (A : MS) (j : Nat) (S : XS) : Prop := xp S n 9 = nI (cntN (fun i => cnsT A n (nI i)) j) ∧ xp S n 10 = andN (vnF A n) j ∧ xp S n 11 = bi (anyN (heF A n) j) ∧ xp S n 12 = bi (anyN (shF A n) j)
theorem x_noteVerbs {A : MS} {S : XS} {n : Nat} (hn : n < 17) (h : rowOk A n) (hx : itmX n A S) (hv : vbX n A 0 S) : ∃ B, fX1_noteVerbs n S = some B ∧ frV n S B ∧ vbX n A (cT A n) B := by
  have hc := h.1.2
  unfold fX1_noteVerbs
  rw [if_pos hn]
  refine lp_ex _ (fun j q => q.1 = nI j ∧ frV n S q.2 ∧ vbX n A j q.2) _ (cT A n) (by omega) (0, S) ⟨rfl, ⟨frP_rfl n S, rfl, fun _ _ _ _ _ => rfl⟩, hv⟩ ?_ ?_
  · rintro j ⟨x, B⟩ hj ⟨hx1, hB, hvb⟩
    have hx1 : x = nI j := hx1
    have hB : frV n S B := hB
    have hvb : vbX n A j B := hvb
    subst hx1
    have hi := frV_itm hB hx
    have e1 : ∀ k, bX1_noteVerbs_2 k n (nI j) B = (if cnsT A n (nI j) = true then bnd (xpW B n 9 (xp B n 9 + 1)) (fun S16 => ob1 (fX1_noteWho n (whoT A n (nI j)) S16) (fun S18 => k (nI (j + 1), S18))) else k (nI (j + 1), B)) := by
      intro k
      unfold bX1_noteVerbs_2
      rw [hi.1, if_neg (nI_ge hj (by omega)), x_whoPlace hn h hi, ob1_s, x_verbCounts hn h hi hj, ob1_s, if_bi, nI_1]
    obtain ⟨v9, v10, v11, v12⟩ := hvb
    cases hcn : cnsT A n (nI j)
    · refine ⟨(nI (j + 1), B), ⟨rfl, hB, ?_⟩, fun k => by dsimp only; rw [e1, hcn, if_neg (by decide)]⟩
      refine ⟨?_, ?_, ?_, ?_⟩
      · show xp B n 9 = _
        rw [cntN_f (P := fun i => cnsT A n (nI i)) hcn]; exact v9
      · show xp B n 10 = andN (vnF A n) j &&& vnF A n j
        have : vnF A n j = 255 := by unfold vnF; rw [if_neg (fun z => by rw [hcn] at z; exact absurd z.1 (by decide))]
        rw [this, and_255 (S8_andN _ _)]; exact v10
      · show xp B n 11 = bi (anyN (heF A n) j || heF A n j)
        have : heF A n j = false := by unfold heF; rw [hcn]; rfl
        rw [this, Bool.or_false]; exact v11
      · show xp B n 12 = bi (anyN (shF A n) j || shF A n j)
        have : shF A n j = false := by unfold shF; rw [hcn]; rfl
        rw [this, Bool.or_false]; exact v12
    · have h9 : whoT A n (nI j) ≠ -9 := by
        unfold cnsT at hcn
        exact (of_decide_eq_true hcn).2.1
      obtain ⟨w, hw, ew, hk⟩ := who_ok h h9
      have hwN : whoN A n j = w := by unfold whoN; rw [ew, cl_nI (by omega)]
      let B1 := xpW B n 9 (xp B n 9 + 1)
      have hB1 : frV n S B1 := frV_p hB _ (by decide)
      have hi1 := frV_itm hB1 hx
      have b9 : xp B1 n 9 = nI (cntN (fun i => cnsT A n (nI i)) (j + 1)) := by
        show xp (xpW B n 9 _) n 9 = _
        rw [xp_xpW, v9, nI_1, cntN_t (P := fun i => cnsT A n (nI i)) hcn]
      have bo : ∀ k, k ≠ 9 → xp B1 n k = xp B n k := fun k hk => xp_xpW' B n _ hk
      have f10 : itT A n w ≠ 5 → vnF A n j = 255 := fun z => by unfold vnF; rw [hwN, if_neg (fun y => z y.2)]
      have f11 : itT A n w ≠ 3 → heF A n j = false := fun z => by unfold heF; rw [hwN, decide_eq_false z, Bool.and_false]
      have f12 : itT A n w ≠ 4 → shF A n j = false := fun z => by unfold shF; rw [hwN, decide_eq_false z, Bool.and_false]
      have k10 : itT A n w ≠ 5 → xp B n 10 = andN (vnF A n) (j + 1) := fun z => by
        show _ = andN (vnF A n) j &&& vnF A n j
        rw [f10 z, and_255 (S8_andN _ _)]; exact v10
      have k11 : itT A n w ≠ 3 → xp B n 11 = bi (anyN (heF A n) (j + 1)) := fun z => by
        show _ = bi (anyN (heF A n) j || heF A n j)
        rw [f11 z, Bool.or_false]; exact v11
      have k12 : itT A n w ≠ 4 → xp B n 12 = bi (anyN (shF A n) (j + 1)) := fun z => by
        show _ = bi (anyN (shF A n) j || shF A n j)
        rw [f12 z, Bool.or_false]; exact v12
      have ew2 : ∀ k, bX1_noteVerbs_2 k n (nI j) B = ob1 (fX1_noteWho n (nI w) B1) (fun S18 => k (nI (j + 1), S18)) := fun k => by
        rw [e1, hcn, if_pos rfl, bnd_s, ew]
      have ekd : fX1_kindAt n (nI w) B1 = some (kc (itT A n w)) := by rw [x_kindAt hn h hi1, kd_nI hc hw]
      rcases hk with hk | hk | hk
      · refine ⟨(nI (j + 1), xpW B1 n 11 1), ⟨rfl, frV_p hB1 _ (by decide), ?_⟩, fun k => ?_⟩
        · refine ⟨?_, ?_, ?_, ?_⟩
          · show xp (xpW B1 n 11 1) n 9 = _
            rw [xp_xpW' _ _ _ (by decide)]; exact b9
          · show xp (xpW B1 n 11 1) n 10 = _
            rw [xp_xpW' _ _ _ (by decide), bo 10 (by decide)]; exact k10 (by rw [hk]; decide)
          · show xp (xpW B1 n 11 1) n 11 = bi (anyN (heF A n) j || heF A n j)
            have : heF A n j = true := by unfold heF; rw [hwN, hcn, decide_eq_true hk]; rfl
            rw [xp_xpW, this, Bool.or_true]; rfl
          · show xp (xpW B1 n 11 1) n 12 = _
            rw [xp_xpW' _ _ _ (by decide), bo 12 (by decide)]; exact k12 (by rw [hk]; decide)
        · dsimp only
          rw [ew2]
          unfold fX1_noteWho
          rw [if_pos hn, ekd, ob1_s, hk, if_neg (by decide), if_pos (by decide), bnd_s, ob1_s]
      · refine ⟨(nI (j + 1), xpW B1 n 12 1), ⟨rfl, frV_p hB1 _ (by decide), ?_⟩, fun k => ?_⟩
        · refine ⟨?_, ?_, ?_, ?_⟩
          · show xp (xpW B1 n 12 1) n 9 = _
            rw [xp_xpW' _ _ _ (by decide)]; exact b9
          · show xp (xpW B1 n 12 1) n 10 = _
            rw [xp_xpW' _ _ _ (by decide), bo 10 (by decide)]; exact k10 (by rw [hk]; decide)
          · show xp (xpW B1 n 12 1) n 11 = _
            rw [xp_xpW' _ _ _ (by decide), bo 11 (by decide)]; exact k11 (by rw [hk]; decide)
          · show xp (xpW B1 n 12 1) n 12 = bi (anyN (shF A n) j || shF A n j)
            have : shF A n j = true := by unfold shF; rw [hwN, hcn, decide_eq_true hk]; rfl
            rw [xp_xpW, this, Bool.or_true]; rfl
        · dsimp only
          rw [ew2]
          unfold fX1_noteWho
          rw [if_pos hn, ekd, ob1_s, hk, if_neg (by decide), if_neg (by decide), if_pos (by decide), bnd_s, ob1_s]
      · obtain ⟨p, hp, ep⟩ := wh_name h hw hk
        refine ⟨(nI (j + 1), xpW B1 n 10 (xp B1 n 10 &&& fX5_bitOf (whT A n w))), ⟨rfl, frV_p hB1 _ (by decide), ?_⟩, fun k => ?_⟩
        · refine ⟨?_, ?_, ?_, ?_⟩
          · show xp (xpW B1 n 10 _) n 9 = _
            rw [xp_xpW' _ _ _ (by decide)]; exact b9
          · show xp (xpW B1 n 10 _) n 10 = andN (vnF A n) j &&& vnF A n j
            have : vnF A n j = fX5_bitOf (whT A n w) := by unfold vnF; rw [hwN, if_pos ⟨hcn, hk⟩, ep, bitw_nI hp]
            rw [xp_xpW, this, bo 10 (by decide), v10]
          · show xp (xpW B1 n 10 _) n 11 = _
            rw [xp_xpW' _ _ _ (by decide), bo 11 (by decide)]; exact k11 (by rw [hk]; decide)
          · show xp (xpW B1 n 10 _) n 12 = _
            rw [xp_xpW' _ _ _ (by decide), bo 12 (by decide)]; exact k12 (by rw [hk]; decide)
        · dsimp only
          rw [ew2]
          unfold fX1_noteWho
          rw [if_pos hn, ekd, ob1_s, hk, if_pos (by decide), x_personAt hn h hi1 hw hk, ob1_s, bnd_s, ob1_s]
  · rintro ⟨x, B⟩ ⟨hx1, hB, hvb⟩
    have hx1 : x = nI (cT A n) := hx1
    have hB : frV n S B := hB
    have hi := frV_itm hB hx
    subst hx1
    refine ⟨some B, ⟨B, rfl, hB, hvb⟩, fun k => ?_⟩
    dsimp only
    unfold bX1_noteVerbs_2
    rw [hi.1, if_pos (Int32.le_refl _)]
theorem x_noteDoer {A : MS} {S : XS} {n : Nat} (hn : n < 17) (h : rowOk A n) (hx : itmX n A S) (h9 : xp S n 9 = nI (vcT A n)) (h13 : xp S n 13 = 255) : ∃ v, fX1_noteDoer n S = some (xpW S n 13 v) ∧ v = doT A n ∨ fX1_noteDoer n S = some S ∧ 255 = doT A n := by
  have hc := h.1.2
  have hv : vcT A n ≤ 12 := Nat.le_trans (cntN_le _ _) hc
  unfold fX1_noteDoer doT
  rw [if_pos hn, h9, show fX1_kindAt n 0 S = _ from x_kindAt hn h hx 0, show fX1_kindAt n 1 S = _ from x_kindAt hn h hx 1, ob1_s, ob1_s]
  by_cases z0 : vcT A n = 0
  · rw [if_pos (by rw [z0]; rfl)]
    by_cases z1 : kdT A n 0 = 5
    · rw [if_pos ((kc_who (kd_cases h _)).2.2.2.1.mpr z1)]
      by_cases z2 : kdT A n 1 = 2
      · rw [if_pos ((kc_who (kd_cases h _)).2.2.2.2.1.mpr z2)]
        obtain ⟨j, hj, ej, e5⟩ := kd_in hc (x := 0) (by rw [z1]; decide)
        have hj0 : j = 0 := ((nI_eq (a := 0) (by omega) (by omega)).mp ej).symm
        subst hj0
        have h5 : itT A n 0 = 5 := by rw [← e5]; exact z1
        obtain ⟨p, hp, ep⟩ := wh_name h hj h5
        rw [show fX1_personAt n 0 S = some (whT A n 0) from x_personAt hn h hx hj h5, ob1_s, bnd_s, if_pos ⟨z0, z1, z2⟩]
        exact ⟨_, Or.inl ⟨rfl, by rw [ep]; exact bitw_nI hp⟩⟩
      · rw [if_neg (fun z => z2 ((kc_who (kd_cases h _)).2.2.2.2.1.mp z)), if_neg (fun z => z2 z.2.2)]
        exact ⟨0, Or.inr ⟨rfl, rfl⟩⟩
    · rw [if_neg (fun z => z1 ((kc_who (kd_cases h _)).2.2.2.1.mp z)), if_neg (fun z => z1 z.2.1)]
      exact ⟨0, Or.inr ⟨rfl, rfl⟩⟩
  · rw [if_neg (show ¬ nI (vcT A n) = 0 from fun z => z0 ((nI_eq (b := 0) (by omega) (by omega)).mp z)), if_neg (fun z => z0 z.1)]
    exact ⟨0, Or.inr ⟨rfl, rfl⟩⟩
