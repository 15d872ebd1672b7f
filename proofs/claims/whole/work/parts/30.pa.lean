/-! narrowing of the class -/
def chX (n : Nat) (sp : Nat → Bool) (o lk : Nat → Int32) (S : XS) : Prop := xi S 5 = nI n ∧ ∀ k, k < n → xa S 8 k = bi (sp k) ∧ xa S 9 k = o k ∧ xa S 10 k = lk k
def frX (P : Nat → Prop) (S S' : XS) : Prop := xi S' = xi S ∧ S'.2.2.2 = S.2.2.2 ∧ ∀ a, ¬ P a → xa S' a = xa S a
theorem frX_rfl (P : Nat → Prop) (S : XS) : frX P S S := ⟨rfl, rfl, fun _ _ => rfl⟩
theorem frX_trans {P : Nat → Prop} {S S' S'' : XS} (h : frX P S S') (h2 : frX P S' S'') : frX P S S'' := ⟨h2.1.trans h.1, h2.2.1.trans h.2.1, fun a ha => (h2.2.2 a ha).trans (h.2.2 a ha)⟩
theorem frX_xa {P : Nat → Prop} (S : XS) {a : Nat} (ha : P a) (j : Nat) (v : Int32) : frX P S (xaW S a j v) := ⟨rfl, rfl, fun b hb => xa_xaW' S j v (fun e => hb (by rw [e]; exact ha))⟩
theorem frX_xl {P : Nat → Prop} (S : XS) (a j : Nat) (v : Int64) : frX P S (xlW S a j v) := ⟨rfl, rfl, fun _ _ => rfl⟩
theorem frX_mono {P Q : Nat → Prop} {S S' : XS} (h : frX P S S') (hp : ∀ a, P a → Q a) : frX Q S S' := ⟨h.1, h.2.1, fun a ha => h.2.2 a (fun q => ha (hp a q))⟩
theorem frX_cor {P : Nat → Prop} {S S' : XS} (h : frX P S S') (hp : ∀ a, P a → 4 < a) : corX S S' := ⟨fun k _ => by rw [h.1], h.2.2 2 (fun q => by have := hp 2 q; omega), h.2.2 4 (fun q => by have := hp 4 q; omega), h.2.1⟩
theorem chX_fr {P : Nat → Prop} {S S' : XS} {n : Nat} {sp : Nat → Bool} {o lk : Nat → Int32} (h : frX P S S') (hp : ∀ a, P a → 10 < a) (hc : chX n sp o lk S) : chX n sp o lk S' := by
  unfold chX at hc ⊢
  rw [h.1, h.2.2 8 (fun q => by have := hp 8 q; omega), h.2.2 9 (fun q => by have := hp 9 q; omega), h.2.2 10 (fun q => by have := hp 10 q; omega)]
  exact hc
def rd (n : Nat) (g : Nat → Int32) (x : Int32) : Int32 := if 0 ≤ x ∧ x < nI n then g x.toNatClampNeg else 0
theorem rd_in {n k : Nat} (g : Nat → Int32) (hn : n ≤ 16) (h : k < n) : rd n g (nI k) = g k := by
  unfold rd
  rw [if_pos ((lt_nI (by omega)).mpr ⟨k, h, rfl⟩), cl_nI (by omega)]
theorem rd_ge {n k : Nat} (g : Nat → Int32) (hn : n ≤ 16) (h : n ≤ k) (hk : k < 2 ^ 31) : rd n g (nI k) = 0 := by
  unfold rd
  rw [if_neg]
  rintro ⟨-, h2⟩
  exact nI_nlt h hk h2
theorem rd_neg {n : Nat} (g : Nat → Int32) {x : Int32} (h : x < 0) : rd n g x = 0 := by
  unfold rd
  rw [if_neg]
  rintro ⟨h1, -⟩
  have a := Int32.lt_iff_toInt_lt.mp h
  have b := Int32.le_iff_toInt_le.mp h1
  omega
theorem x_hold {S : XS} {n : Nat} (h5 : xi S 5 = nI n) (hn : n ≤ 16) (x : Int32) : fX0_holds x S = decide (0 ≤ x ∧ x < nI n) := by
  unfold fX0_holds
  rw [x_within, h5, if_bid]
  by_cases h : 0 ≤ x ∧ x < nI n
  · obtain ⟨k, hk, rfl⟩ := (lt_nI (by omega)).mp h
    rw [if_pos h, if_neg (show ¬ (16 : Int32) ≤ nI k from nI_ge (b := 16) (by omega) (by omega))]
    simp [h]
  · rw [if_neg h]; simp [h]
theorem x_rd {S : XS} {n : Nat} (h5 : xi S 5 = nI n) (hn : n ≤ 16) (g : Nat → Int32) (x : Int32) : (if bi (fX0_holds x S) = 0 then some 0 else ck x 16 (some (g x.toNatClampNeg))) = some (rd n g x) := by
  rw [x_hold h5 hn, if_bid]
  unfold rd
  by_cases h : 0 ≤ x ∧ x < nI n
  · obtain ⟨k, hk, rfl⟩ := (lt_nI (by omega)).mp h
    rw [if_pos h, if_pos h, ck_in (inb_nI (by omega) (by decide))]
  · rw [if_neg h, if_neg h]
theorem rd_cong {n : Nat} {g g' : Nat → Int32} (hn : n ≤ 16) (h : ∀ k, k < n → g k = g' k) (x : Int32) : rd n g x = rd n g' x := by
  unfold rd
  by_cases hx : 0 ≤ x ∧ x < nI n
  · rw [if_pos hx, if_pos hx]
    obtain ⟨k, hk, rfl⟩ := (lt_nI (by omega)).mp hx
    rw [cl_nI (by omega)]
    exact h k hk
  · rw [if_neg hx, if_neg hx]
theorem x_own {S : XS} {n : Nat} {sp : Nat → Bool} {o lk : Nat → Int32} (hn : n ≤ 16) (h : chX n sp o lk S) (x : Int32) : fX0_ownSet x S = some (rd n o x) := by
  unfold fX0_ownSet
  rw [x_rd h.1 hn (xa S 9) x, rd_cong hn (fun k hk => (h.2 k hk).2.1)]
theorem x_lnk {S : XS} {n : Nat} {sp : Nat → Bool} {o lk : Nat → Int32} (hn : n ≤ 16) (h : chX n sp o lk S) (x : Int32) : fX0_linkAt x S = some (rd n lk x) := by
  unfold fX0_linkAt
  rw [x_rd h.1 hn (xa S 10) x, rd_cong hn (fun k hk => (h.2 k hk).2.2)]
theorem x_ear {S : XS} {n : Nat} (h5 : xi S 5 = nI n) (hn : n ≤ 16) (x : Int32) : fX0_earlierSet x S = some (rd n (xa S 12) x) := x_rd h5 hn (xa S 12) x
theorem x_nar {S : XS} {n : Nat} (h5 : xi S 5 = nI n) (hn : n ≤ 16) (x : Int32) : fX0_narrowedSet x S = some (rd n (xa S 11) x) := x_rd h5 hn (xa S 11) x
theorem x_sur {S : XS} {n : Nat} (h5 : xi S 5 = nI n) (hn : n ≤ 16) (x : Int32) : fX0_sureSet x S = some (rd n (xa S 15) x) := x_rd h5 hn (xa S 15) x
theorem x_left {s o : Int32} (l : Int32) (hs : S8 s) (ho : S8 o) : s &&& fX0_leftBy o l = byF s l o := by
  unfold fX0_leftBy byF bX0_leftBy_25
  rw [x_bc ho, if_bi, if_bi]
  have hz := sz_le o
  by_cases h1 : l = 1
  · rw [if_pos h1, if_pos h1]
  · rw [if_neg h1, if_neg h1]
    by_cases h2 : l = 2
    · rw [if_pos h2]
      by_cases h3 : sz o = 1
      · rw [if_pos (show nI (sz o) = 1 by rw [h3]; rfl), if_pos rfl, if_pos (show l = 2 ∧ sz o = 1 from ⟨h2, h3⟩)]
        apply tb_ext
        intro p hp
        rw [tb_and, tb_and, tb_and, tb_255]
        rcases Nat.lt_or_ge p 8 with q | q
        · simp [q]
        · rw [hs p q]; rfl
      · rw [if_neg (show ¬ nI (sz o) = 1 from fun q => h3 ((nI_eq (b := 1) (by omega) (by omega)).mp q)), if_neg (show ¬ false = true by simp), if_neg (show ¬ (l = 2 ∧ sz o = 1) from fun q => h3 q.2), and_255 hs]
    · rw [if_neg h2, if_neg (show ¬ false = true by simp), if_neg (show ¬ (l = 2 ∧ sz o = 1) from fun q => h2 q.1), and_255 hs]
theorem zero_and' (x : Int32) : 0 &&& x = 0 := by apply tb_ext; intro p _; rw [tb_and, tb_0]; simp
def ex0 (n : Nat) (f : Nat → Int32) (k : Nat) : Int32 := if k < n then f k else 0
theorem ge16n {j : Nat} (h : j < 16) : ¬ (16 : Int32) ≤ nI j := nI_ge (b := 16) h (by omega)
theorem ge16 : (16 : Int32) ≤ nI 16 := by decide
abbrev pX : Nat → Prop := fun a => a = 11 ∨ a = 12
theorem x_narrowOnce {S : XS} {n : Nat} {sp : Nat → Bool} {o lk : Nat → Int32} (hn : n ≤ 16) (h : chX n sp o lk S) (hlk : ∀ k, n ≤ k → lk k = 0) (f : Nat → Int32) (hf8 : ∀ k, k < n → S8 (f k)) (hf : ∀ k, k < 16 → xa S 11 k = ex0 n f k) : ∃ S', fX0_narrowOnce S = some (chgB n lk f, S') ∧ frX pX S S' ∧ xl S' = xl S ∧ ∀ k, k < 16 → xa S' 11 k = ex0 n (nst n lk f) k := by
  unfold fX0_narrowOnce
  refine lp_in _ (fun (j : Nat) (q : Int32 × XS) => q.1 = nI j ∧ frX pX S q.2 ∧ xl q.2 = xl S ∧ xa q.2 11 = xa S 11 ∧ ∀ k, k < j → xa q.2 12 k = ex0 n f k) (fun z => ∃ S', z = some (chgB n lk f, S') ∧ frX pX S S' ∧ xl S' = xl S ∧ ∀ k, k < 16 → xa S' 11 k = ex0 n (nst n lk f) k) 16 (by omega) (0, S) ⟨rfl, frX_rfl _ _, rfl, rfl, fun k hk => by omega⟩ ?_ ?_
  · rintro j ⟨x, A⟩ hj ⟨e, hA, hxl, h11, h12⟩
    dsimp only at e hA hxl h11 h12
    subst e
    refine ⟨(nI (j + 1), xaW A 12 j (ex0 n f j)), ⟨rfl, frX_trans hA (frX_xa A (Or.inr rfl) _ _), hxl, (xa_xaW' A j _ (by decide : (11 : Nat) ≠ 12)).trans h11, ?_⟩, ?_⟩
    · intro k hk
      show xa (xaW A 12 j _) 12 k = _
      rw [xa_xaW]
      by_cases e : k = j
      · subst e; rw [upd_s]
      · rw [upd_n _ _ e]; exact h12 k (by omega)
    · intro k0
      dsimp only
      unfold bX0_narrowOnce_2
      rw [if_neg (ge16n hj), ck_in (inb_nI hj (by decide)), ck_in (inb_nI hj (by decide)), cl_nI (by omega), bnd_s, h11, hf j hj, nI_1]
  · rintro ⟨x, A⟩ ⟨e, hA, hxl, h11, h12⟩
    dsimp only at e hA hxl h11 h12
    subst e
    refine ⟨lp (fun k q => bX0_narrowOnce_30 k q.1 q.2.1 q.2.2) FU (false, 0, A), ?_, ?_⟩
    · refine lp_in _ (fun (j : Nat) (q : Bool × Int32 × XS) => q.1 = anyN (fun k => decide (ex0 n (nst n lk f) k ≠ ex0 n f k)) j ∧ q.2.1 = nI j ∧ frX pX S q.2.2 ∧ xl q.2.2 = xl S ∧ (∀ k, k < 16 → xa q.2.2 12 k = ex0 n f k) ∧ ∀ k, k < j → xa q.2.2 11 k = ex0 n (nst n lk f) k) (fun z => ∃ S', z = some (chgB n lk f, S') ∧ frX pX S S' ∧ xl S' = xl S ∧ ∀ k, k < 16 → xa S' 11 k = ex0 n (nst n lk f) k) 16 (by omega) (false, 0, A) ⟨rfl, rfl, hA, hxl, h12, fun k hk => by omega⟩ ?_ ?_
      · rintro j ⟨b, x, C⟩ hj ⟨e0, e, hC, hxlC, h12C, h11C⟩
        dsimp only at e0 e hC hxlC h12C h11C
        subst e
        have hcC : chX n sp o lk C := chX_fr hC (fun a q => by rcases q with q | q <;> omega) h
        have hrd : ∀ y, rd n (xa C 12) y = rd n f y := rd_cong hn (fun k hk => by rw [h12C k (by omega)]; unfold ex0; rw [if_pos hk])
        -- the new set
        have hv : ex0 n f j &&& fX0_leftBy (rd n f (nI j - 1)) (rd n lk (nI j)) &&& fX0_leftBy (rd n f (nI j + 1)) (rd n lk (nI j + 1)) = ex0 n (nst n lk f) j := by
          unfold ex0
          by_cases hjn : j < n
          · rw [if_pos hjn, if_pos hjn, rd_in lk hn hjn, nI_1]
            have hS : ∀ k, S8 (rd n f (nI k)) := by
              intro k
              by_cases q : k < n
              · rw [rd_in f hn q]; exact hf8 k q
              · unfold rd
                by_cases q2 : 0 ≤ nI k ∧ nI k < nI n
                · rw [if_pos q2]
                  obtain ⟨k', hk', e⟩ := (lt_nI (by omega)).mp q2
                  rw [e, cl_nI (by omega)]
                  exact hf8 k' hk'
                · rw [if_neg q2]; exact S8_0
            have e1 : rd n f (nI j - 1) = (if 0 < j then f (j - 1) else 0) := by
              by_cases q : 0 < j
              · rw [if_pos q, show nI j - 1 = nI (j - 1) from by rw [show (1 : Int32) = nI 1 from rfl, pk_sub q], rd_in f hn (by omega)]
              · have : j = 0 := by omega
                subst this
                rw [if_neg (by omega), rd_neg f (by decide)]
            have e2 : rd n f (nI (j + 1)) = (if j + 1 < n then f (j + 1) else 0) := by
              by_cases q : j + 1 < n
              · rw [if_pos q, rd_in f hn q]
              · rw [if_neg q, rd_ge f hn (by omega) (by omega)]
            have e3 : rd n lk (nI (j + 1)) = lk (j + 1) := by
              by_cases q : j + 1 < n
              · rw [rd_in lk hn q]
              · rw [rd_ge lk hn (by omega) (by omega), hlk _ (by omega)]
            have s1 : S8 (rd n f (nI j - 1)) := by
              rw [e1]
              by_cases q : 0 < j
              · rw [if_pos q]; exact hf8 _ (by omega)
              · rw [if_neg q]; exact S8_0
            rw [x_left _ (hf8 j hjn) s1, x_left _ ((hf8 j hjn).sub (byF_sub _ _ _)) (hS (j + 1)), e1, e2, e3]
            rfl
          · rw [if_neg hjn, if_neg hjn, zero_and', zero_and']
        let A1 := xaW C 11 j (ex0 n (nst n lk f) j)
        have h12A : ∀ k, xa A1 12 k = xa C 12 k := fun k => congrFun (xa_xaW' C j _ (by decide : (12 : Nat) ≠ 11)) k
        have h11A : xa A1 11 j = ex0 n (nst n lk f) j := by rw [show xa A1 11 = upd (xa C 11) j _ from xa_xaW C 11 j _, upd_s]
        refine ⟨(b || decide (ex0 n (nst n lk f) j ≠ ex0 n f j), nI (j + 1), A1), ⟨by show (b || _) = _; rw [e0]; rfl, rfl, frX_trans hC (frX_xa C (Or.inl rfl) _ _), hxlC, fun k hk => (h12A k).trans (h12C k hk), ?_⟩, ?_⟩
        · intro k hk
          show xa A1 11 k = _
          by_cases e : k = j
          · subst e; exact h11A
          · rw [show xa A1 11 = upd (xa C 11) j _ from xa_xaW C 11 j _, upd_n _ _ e]; exact h11C k (by omega)
        · intro k0
          dsimp only
          unfold bX0_narrowOnce_30
          rw [if_neg (ge16n hj), ck_in (inb_nI hj (by decide)), x_ear hcC.1 hn, ob1_s, x_lnk hn hcC, ob1_s, x_ear hcC.1 hn, ob1_s, x_lnk hn hcC, ob1_s, ck_in (inb_nI hj (by decide)), cl_nI (by omega), h12C j hj, hrd, hrd, hv, bnd_s]
          show (if bi b = 0 then (ck (nI j) 16 (ck (nI j) 16 (if xa A1 11 j = xa A1 12 j then k0 (false, nI j + 1, A1) else k0 (true, nI j + 1, A1)))) else k0 (true, nI j + 1, A1)) = _
          rw [ck_in (inb_nI hj (by decide)), ck_in (inb_nI hj (by decide)), h11A, h12A, h12C j hj, nI_1, if_bi]
          cases b
          · rw [if_neg (by simp)]
            by_cases hq : ex0 n (nst n lk f) j = ex0 n f j
            · rw [if_pos hq]; simp [hq]
            · rw [if_neg hq]; simp [hq]
          · rw [if_pos rfl]; rfl
      · rintro ⟨b, x, C⟩ ⟨e0, e, hC, hxlC, h12C, h11C⟩
        dsimp only at e0 e hC hxlC h12C h11C
        subst e
        refine ⟨some (b, C), ⟨C, ?_, hC, hxlC, h11C⟩, ?_⟩
        · rw [e0]
          have : anyN (fun k => decide (ex0 n (nst n lk f) k ≠ ex0 n f k)) 16 = chgB n lk f := by
            have hiff : anyN (fun k => decide (ex0 n (nst n lk f) k ≠ ex0 n f k)) 16 = true ↔ chgB n lk f = true := by
              unfold chgB
              rw [anyN_iff, anyN_iff]
              constructor
              · rintro ⟨i, hi, c⟩
                have c := of_decide_eq_true c
                unfold ex0 at c
                by_cases q : i < n
                · rw [if_pos q, if_pos q] at c
                  exact ⟨i, q, decide_eq_true c⟩
                · rw [if_neg q, if_neg q] at c; exact absurd rfl c
              · rintro ⟨i, hi, c⟩
                have c := of_decide_eq_true c
                refine ⟨i, by omega, decide_eq_true ?_⟩
                unfold ex0
                rw [if_pos hi, if_pos hi]; exact c
            cases h1 : anyN (fun k => decide (ex0 n (nst n lk f) k ≠ ex0 n f k)) 16 <;> cases h2 : chgB n lk f
            · rfl
            · rw [h1, h2] at hiff; simp at hiff
            · rw [h1, h2] at hiff; simp at hiff
            · rfl
          rw [this]
        · intro k0
          dsimp only
          unfold bX0_narrowOnce_30
          rw [if_pos ge16]
    · intro k0
      dsimp only
      unfold bX0_narrowOnce_2
      rw [if_pos ge16]
theorem x_narrow {S : XS} {n : Nat} {sp : Nat → Bool} {o lk : Nat → Int32} (hn : n ≤ 16) (h : chX n sp o lk S) (hlk : ∀ k, n ≤ k → lk k = 0) (ho8 : ∀ k, k < n → S8 (o k)) {R : Nat} (hR : R ≤ 128) (hend : chgB n lk (nit n lk o R) = false) (hgo : ∀ r, r < R → chgB n lk (nit n lk o r) = true) : ∃ S', fX0_narrow S = some S' ∧ frX pX S S' ∧ xl S' = xl S ∧ ∀ k, k < 16 → xa S' 11 k = ex0 n (nit n lk o (R + 1)) k := by
  unfold fX0_narrow
  refine lp_ex _ (fun (j : Nat) (q : Int32 × XS) => q.1 = nI j ∧ frX pX S q.2 ∧ xl q.2 = xl S ∧ ∀ k, k < j → xa q.2 11 k = ex0 n o k) _ 16 (by omega) (0, S) ⟨rfl, frX_rfl _ _, rfl, fun k hk => by omega⟩ ?_ ?_
  · rintro j ⟨x, A⟩ hj ⟨e, hA, hxl, h11⟩
    dsimp only at e hA hxl h11
    subst e
    have hcA : chX n sp o lk A := chX_fr hA (fun a q => by rcases q with q | q <;> omega) h
    refine ⟨(nI (j + 1), xaW A 11 j (ex0 n o j)), ⟨rfl, frX_trans hA (frX_xa A (Or.inl rfl) _ _), hxl, ?_⟩, ?_⟩
    · intro k hk
      show xa (xaW A 11 j _) 11 k = _
      rw [xa_xaW]
      by_cases e : k = j
      · subst e; rw [upd_s]
      · rw [upd_n _ _ e]; exact h11 k (by omega)
    · intro k0
      dsimp only
      unfold bX0_narrow_2
      rw [if_neg (ge16n hj), x_own hn hcA, ob1_s, ck_in (inb_nI hj (by decide)), cl_nI (by omega), bnd_s, nI_1]
      have : rd n o (nI j) = ex0 n o j := by
        unfold ex0
        by_cases q : j < n
        · rw [if_pos q, rd_in o hn q]
        · rw [if_neg q, rd_ge o hn (by omega) (by omega)]
      rw [this]
  · rintro ⟨x, A⟩ ⟨e, hA, hxl, h11⟩
    dsimp only at e hA hxl h11
    subst e
    refine ⟨lp (fun k q => bX0_narrow_33 k q.1 q.2.1 q.2.2) FU (true, 0, A), ?_, ?_⟩
    · refine lp_ex _ (fun (j : Nat) (q : Bool × Int32 × XS) => q.1 = decide (j ≤ R) ∧ q.2.1 = nI j ∧ frX pX S q.2.2 ∧ xl q.2.2 = xl S ∧ ∀ k, k < 16 → xa q.2.2 11 k = ex0 n (nit n lk o j) k) _ (R + 1) (by omega) (true, 0, A) ⟨by simp, rfl, hA, hxl, h11⟩ ?_ ?_
      · rintro j ⟨b, x, C⟩ hj ⟨e0, e, hC, hxlC, h11C⟩
        dsimp only at e0 e hC hxlC h11C
        subst e
        have hcC : chX n sp o lk C := chX_fr hC (fun a q => by rcases q with q | q <;> omega) h
        obtain ⟨C', hr, hfr, hxlr, hC'⟩ := x_narrowOnce hn hcC hlk (nit n lk o j) (nit_S8 ho8 j) h11C
        refine ⟨(chgB n lk (nit n lk o j), nI (j + 1), C'), ⟨?_, rfl, frX_trans hC hfr, hxlr.trans hxlC, hC'⟩, ?_⟩
        · show chgB _ _ _ = _
          rcases Nat.lt_or_ge j R with q | q
          · rw [hgo j q]; simp; omega
          · have : j = R := by omega
            subst this
            rw [hend]; simp
        · intro k0
          dsimp only
          unfold bX0_narrow_33
          rw [e0, if_bid, if_pos (by omega), if_neg (show ¬ (129 : Int32) ≤ nI j from nI_ge (b := 129) (by omega) (by omega)), hr, ob2_s, nI_1]
      · rintro ⟨b, x, C⟩ ⟨e0, e, hC, hxlC, h11C⟩
        dsimp only at e0 e hC hxlC h11C
        subst e
        refine ⟨some C, ⟨C, rfl, hC, hxlC, h11C⟩, ?_⟩
        intro k0
        dsimp only
        unfold bX0_narrow_33
        rw [e0, if_bid, if_neg (by omega)]
    · intro k0
      dsimp only
      unfold bX0_narrow_2
      rw [if_pos ge16]
