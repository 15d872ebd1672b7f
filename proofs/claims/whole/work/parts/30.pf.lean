/-! ways of the class: all of them, through, sure -/
def waysX (n : Nat) (sp : Nat → Bool) (o lk : Nat → Int32) (B : XS) : Prop := (∀ k, k < n → sp k = true → ∀ q, q < 8 → xl B 13 (8 * k + q) = lN (upG sp o lk 0 k q)) ∧ ∀ k, k < n → sp k = true → ∀ q, q < 8 → xl B 14 (8 * k + q) = lN (dnG n sp o lk (n - 1 - k) q)
theorem x_through {S : XS} {n : Nat} {sp : Nat → Bool} {o lk : Nat → Int32} (hn : n ≤ 16) (h : chX n sp o lk S) (hw : waysX n sp o lk S) {k p : Nat} (hk : k < n) (hp : p < 8) : fX0_waysThrough (nI k) (nI p) S = some (if sp k = true then lN (wwN n sp o lk k p) else 0) := by
  unfold fX0_waysThrough
  rw [x_hold h.1 hn, if_bid, if_pos ((lt_nI (by omega)).mpr ⟨k, hk, rfl⟩), ck_in (inb_nI (by omega) (by decide)), cl_nI (by omega), (h.2 k hk).1, if_bi, x_cnt_13 S (by omega) hp, ob1_s, x_cnt_14 S (by omega) hp, ob1_s]
  cases hs : sp k
  · rfl
  · rw [if_pos rfl, if_pos rfl, hw.1 k hk hs p hp, hw.2 k hk hs p hp, lN_mul]; rfl
theorem x_through_out {S : XS} {n : Nat} {sp : Nat → Bool} {o lk : Nat → Int32} (hn : n ≤ 16) (h : chX n sp o lk S) {k : Nat} (hk : n ≤ k) (hk2 : k < 1000) (y : Int32) : fX0_waysThrough (nI k) y S = some 0 := by
  unfold fX0_waysThrough
  rw [x_hold h.1 hn, if_bid, if_neg]
  rintro ⟨-, q⟩
  exact nI_nlt hk (by omega) q
theorem x_setThrough {S : XS} {n : Nat} {sp : Nat → Bool} {o lk : Nat → Int32} (hn : n ≤ 16) (h : chX n sp o lk S) (hw : waysX n sp o lk S) {k : Nat} (hk : k < 16) : fX0_setThrough (nI k) S = some (ex0 n (suN n sp o lk) k) := by
  unfold fX0_setThrough
  by_cases hkn : k < n
  · let g : Nat → Int32 := fun p => if sp k = true ∧ 0 < wwN n sp o lk k p then (1 : Int32) <<< (nI p &&& 31) else 0
    have e : ex0 n (suN n sp o lk) k = orN g 8 := by unfold ex0; rw [if_pos hkn]; rfl
    rw [e]
    refine lp_go _ (fun j => (nI k, orN g j, nI j, S)) _ 8 (by omega) ?_ ?_
    · intro p hp k0
      show bX0_setThrough_4 k0 (nI k) (orN g p) (nI p) S = k0 (nI k, orN g p ||| g p, nI (p + 1), S)
      unfold bX0_setThrough_4
      rw [if_neg (ge8n hp), x_through hn h hw hkn hp, ob1_s, x_bitOf hp, nI_1, bnd_s]
      have hlt := wwN_le sp o lk hn hkn p
      cases hs : sp k
      · rw [if_neg (show ¬ false = true by simp), if_pos (by decide), show g p = 0 from if_neg (fun q => by rw [hs] at q; exact absurd q.1 (by simp)), or_0]
      · rw [if_pos rfl]
        by_cases hz : wwN n sp o lk k p = 0
        · rw [if_pos ((gt0 hlt).mpr hz), show g p = 0 from if_neg (fun q => by omega), or_0]
        · rw [if_neg (fun q => hz ((gt0 hlt).mp q)), show g p = (1 : Int32) <<< (nI p &&& 31) from if_pos ⟨hs, by omega⟩]
    · intro k0
      dsimp only
      unfold bX0_setThrough_4
      rw [if_pos ge8]
  · have e : ex0 n (suN n sp o lk) k = 0 := by unfold ex0; rw [if_neg hkn]
    rw [e]
    refine lp_go _ (fun j => (nI k, 0, nI j, S)) _ 8 (by omega) ?_ ?_
    · intro p hp k0
      dsimp only
      unfold bX0_setThrough_4
      rw [if_neg (ge8n hp), x_through_out hn h (by omega) (by omega), ob1_s, if_pos (by decide), nI_1]
    · intro k0
      dsimp only
      unfold bX0_setThrough_4
      rw [if_pos ge8]
abbrev p15 : Nat → Prop := fun a => a = 15
theorem x_countWays {S : XS} {n : Nat} {sp : Nat → Bool} {o lk : Nat → Int32} (hn : n ≤ 16) (h : chX n sp o lk S) (hlk : lkOk n sp lk) (ho8 : ∀ k, k < n → S8 (o k)) : ∃ B, fX0_countWays S = some (lN (upT sp o lk 0 n), B) ∧ frX p15 S B ∧ waysX n sp o lk B ∧ ∀ k, k < 16 → xa B 15 k = ex0 n (suN n sp o lk) k := by
  unfold fX0_countWays
  rw [bnd_s, h.1]
  refine lp_in _ (fun (j : Nat) (q : Int64 × Int32 × XS) => q.1 = lN (dnT n sp o lk j) ∧ q.2.1 = nI (n - j) - 1 ∧ sameY 14 S q.2.2 ∧ ∀ e, e < j → sp (n - 1 - e) = true → ∀ p, p < 8 → xl q.2.2 14 (8 * (n - 1 - e) + p) = lN (dnG n sp o lk e p))
    (fun z => ∃ B, z = some (lN (upT sp o lk 0 n), B) ∧ frX p15 S B ∧ waysX n sp o lk B ∧ ∀ k, k < 16 → xa B 15 k = ex0 n (suN n sp o lk) k) n (by omega) (1, nI n - 1, S) ⟨rfl, rfl, sameY_rfl _ _, fun e he => by omega⟩ ?_ ?_
  · rintro j ⟨y1, y3, C⟩ hj ⟨e1, e3, hC, hCr⟩
    dsimp only at e1 e3 hC hCr
    subst e1; subst e3
    have hcC := sameY_ch hC h
    obtain ⟨k, hk⟩ : ∃ k, k = n - 1 - j := ⟨_, rfl⟩
    have hkn : k < n := by omega
    have e2 : nI (n - j) - 1 = nI k := by rw [show (1 : Int32) = nI 1 from rfl, pk_sub (by omega)]; congr 1; omega
    have elk : rd n lk (nI (k + 1)) = lk (k + 1) := by
      by_cases q : k + 1 < n
      · rw [rd_in lk hn q]
      · rw [rd_ge lk hn (by omega) (by omega), hlk.2.1 _ (by omega)]
    have eln : ∀ i, (fun i => lk (n - i)) i = lk (n - i) := fun _ => rfl
    have step : ∃ B, (sameY 14 S B ∧ ∀ e, e < j + 1 → sp (n - 1 - e) = true → ∀ p, p < 8 → xl B 14 (8 * (n - 1 - e) + p) = lN (dnG n sp o lk e p)) ∧ fX0_stepOver_14 (nI k) (nI (k + 1)) (lk (k + 1)) (lN (dnT n sp o lk j)) C = some (lN (dnT n sp o lk (j + 1)), B) := by
      cases hs : sp k
      · refine ⟨C, ⟨hC, ?_⟩, ?_⟩
        · intro i hi hsi p hp
          by_cases e : i = j
          · subst e; rw [← hk, hs] at hsi; cases hsi
          · exact hCr i (by omega) hsi p hp
        · have : dnT n sp o lk (j + 1) = dnT n sp o lk j := tW_skip (fun p => by show alB sp o (n - 1 - j) p = _; unfold alB; rw [← hk, hs]; rfl) (by
            refine Or.inr ?_
            show lk (n - j) = 0
            rw [show n - j = k + 1 from by omega]
            exact (hlk.2.2.1 _ hs).2)
          rw [x_step_no_14 hn hcC hkn hs, this]
      · have hal : ∀ p, alB sp o k p = tb (o k) p := fun p => by unfold alB; rw [hs]; rfl
        have hst : fX0_stepOver_14 (nI k) (nI (k + 1)) (lk (k + 1)) (lN (dnT n sp o lk j)) C = some (lN (sumN (dnG n sp o lk j) 8), rowX 14 (8 * k) (dnG n sp o lk j) C 8) := by
          cases j with
          | zero =>
            have hl0 : lk (k + 1) = 0 := hlk.2.1 _ (by omega)
            rw [hl0]
            refine x_step_14 hn hcC ho8 hkn hs _ _ _ (fun _ => 0) _ (Or.inl rfl) (fun p hp => ?_)
            rw [dnG_0 _ _ _ _ (k := k) (by omega), ← hal p]; rfl
          | succ i =>
            refine x_step_14 hn hcC ho8 hkn hs _ _ _ (dnG n sp o lk i) _ ?_ (fun p hp => ?_)
            · by_cases hl0 : lk (k + 1) = 0
              · exact Or.inl hl0
              · have hsi : sp (k + 1) = true := by
                  cases hq : sp (k + 1)
                  · exact absurd (hlk.2.2.1 _ hq).1 hl0
                  · rfl
                have hki : n - 1 - i = k + 1 := by omega
                refine Or.inr ⟨k + 1, by omega, by omega, rfl, fun p hp => ?_, fun p hp => ?_⟩
                · have := hCr i (by omega) (by rw [hki]; exact hsi) p hp
                  rw [hki] at this
                  exact this
                · exact le_sumN (dnG n sp o lk i) hp
            · rw [← hal p]
              have := gW_step (a := fun i => alB sp o (n - 1 - i)) (l := fun i => lk (n - i)) (i := i) (p := p) (hlk.1 _) hp
              have hk1 : n - 1 - (i + 1) = k := by omega
              have hk2 : n - (i + 1) = k + 1 := by omega
              have this : dnG n sp o lk (i + 1) p = if alB sp o (n - 1 - (i + 1)) p = true then fitN (lk (n - (i + 1))) (dnG n sp o lk i p) (dnT n sp o lk (i + 1)) else 0 := this
              rw [hk1, hk2] at this
              exact this
        have hB1 := rowX_same 14 (8 * k) (dnG n sp o lk j) C 8
        have hB2 := rowX_at 14 (8 * k) (dnG n sp o lk j) C 8
        have hB3 := rowX_out 14 (8 * k) (dnG n sp o lk j) C 8
        refine ⟨_, ⟨sameY_trans hC hB1, ?_⟩, hst⟩
        intro i hi hsi p hp
        by_cases e : i = j
        · subst e; rw [← hk]; exact hB2 p hp
        · rw [hB3 _ (by omega)]; exact hCr i (by omega) hsi p hp
    obtain ⟨B, hB, hst⟩ := step
    refine ⟨(lN (dnT n sp o lk (j + 1)), nI k + (-1), B), ⟨rfl, ?_, hB.1, hB.2⟩, ?_⟩
    · show nI k + (-1) = nI (n - (j + 1)) - 1
      rw [show n - (j + 1) = k from by omega, Int32.sub_eq_add_neg]
    · intro k0
      dsimp only
      unfold bX0_countWays_9
      rw [e2, if_neg (nI_pos (by omega)), nI_1, x_lnk hn hcC, ob1_s, elk, hst, ob2_s]
  · rintro ⟨y1, y3, C⟩ ⟨e1, e3, hC, hCr⟩
    dsimp only at e1 e3 hC hCr
    subst e1; subst e3
    have hcC := sameY_ch hC h
    obtain ⟨B, hB, hsB, hBr⟩ := x_within_ways hn hcC hlk ho8 (b := 0) (d := n) (by omega)
    have hcB := sameY_ch hsB hcC
    rw [Nat.zero_add] at hB
    have hwB : waysX n sp o lk B := by
      refine ⟨fun k hk hs q hq => ?_, fun k hk hs q hq => ?_⟩
      · have := hBr k hk (by rw [Nat.zero_add]; exact hs) q hq
        rw [Nat.zero_add] at this
        exact this
      · rw [hsB.2.2.2 14 (by decide)]
        have := hCr (n - 1 - k) (by omega) (by rw [show n - 1 - (n - 1 - k) = k from by omega]; exact hs) q hq
        rw [show n - 1 - (n - 1 - k) = k from by omega] at this
        exact this
    refine ⟨lp (fun k q => bX0_countWays_55 k q.1 q.2.1 q.2.2) FU (lN (upT sp o lk 0 n), 0, B), ?_, ?_⟩
    · refine lp_in _ (fun (j : Nat) (q : Int64 × Int32 × XS) => q.1 = lN (upT sp o lk 0 n) ∧ q.2.1 = nI j ∧ frX p15 S q.2.2 ∧ xl q.2.2 = xl B ∧ ∀ k, k < j → xa q.2.2 15 k = ex0 n (suN n sp o lk) k)
        (fun z => ∃ B, z = some (lN (upT sp o lk 0 n), B) ∧ frX p15 S B ∧ waysX n sp o lk B ∧ ∀ k, k < 16 → xa B 15 k = ex0 n (suN n sp o lk) k) 16 (by omega) (lN (upT sp o lk 0 n), 0, B) ⟨rfl, rfl, frX_trans (sameY_fr hC) (sameY_fr hsB), rfl, fun k hk => by omega⟩ ?_ ?_
      · rintro j ⟨z1, z2, E⟩ hj ⟨f1, f2, hE, hxl, hEr⟩
        dsimp only at f1 f2 hE hxl hEr
        subst f1; subst f2
        have hcE : chX n sp o lk E := chX_fr hE (fun a q => by have q : a = 15 := q; omega) h
        have hwE : waysX n sp o lk E := by unfold waysX; rw [hxl]; exact hwB
        refine ⟨(lN (upT sp o lk 0 n), nI (j + 1), xaW E 15 j (ex0 n (suN n sp o lk) j)), ⟨rfl, rfl, frX_trans hE (frX_xa (P := p15) E (a := 15) rfl _ _), hxl, ?_⟩, ?_⟩
        · intro k hk
          show xa (xaW E 15 j _) 15 k = _
          rw [xa_xaW]
          by_cases e : k = j
          · subst e; rw [upd_s]
          · rw [upd_n _ _ e]; exact hEr k (by omega)
        · intro k0
          dsimp only
          unfold bX0_countWays_55
          rw [if_neg (ge16n hj), x_setThrough hn hcE hwE hj, ob1_s, ck_in (inb_nI hj (by decide)), cl_nI (by omega), bnd_s, nI_1]
      · rintro ⟨z1, z2, E⟩ ⟨f1, f2, hE, hxl, hEr⟩
        dsimp only at f1 f2 hE hxl hEr
        subst f1; subst f2
        refine ⟨_, ⟨E, rfl, hE, by unfold waysX; rw [hxl]; exact hwB, hEr⟩, ?_⟩
        intro k0
        dsimp only
        unfold bX0_countWays_55
        rw [if_pos ge16]
    · intro k0
      dsimp only
      unfold bX0_countWays_9
      rw [Nat.sub_self, if_pos (by decide), hcC.1, show (0 : Int32) = nI 0 from rfl, hB, ob2_s]
