/-! a paragraph on both sides -/
/-- paragraph n as the class holds it, the row n of A given -/
def parY (n : Nat) (on hr : Int32) (A : MS) (S : XS) : Prop :=
  xp S n 2 = ma A 3 n ∧ xp S n 3 = on ∧ xp S n 4 = hr ∧ xp S n 5 = -9 ∧ xp S n 6 = nI (quT A n) ∧ xp S n 7 = meT A n ∧
  xp S n 8 = stT A n ∧ xp S n 9 = nI (vcT A n) ∧ xp S n 10 = vnT A n ∧ xp S n 11 = bi (heT A n) ∧ xp S n 12 = bi (shT A n) ∧ xp S n 13 = doT A n
theorem x_forget (n : Nat) (hn : n < 17) (S : XS) : ∃ B, fX1_forgetAll n S = some B ∧ frP n S B ∧ (∀ v, freshX n 0 v (xpW B n 4 v)) ∧ ∀ v, rowX2 n (0, fun _ => 0, fun _ => -9) (xpW B n 4 v) := by
  unfold fX1_forgetAll
  rw [if_pos hn]
  simp only [bnd_s]
  refine ⟨_, rfl, ?_, ?_, ?_⟩
  · repeat' (refine frP_p ?_ _ _)
    exact frP_rfl n S
  · intro v
    refine ⟨?_, ?_, ?_, ?_, ?_, ?_, ?_, ?_⟩
    all_goals (repeat (first | rw [xp_xpW] | rw [xp_xpW' _ _ _ (by decide)]))
  · intro v
    refine ⟨?_, ?_, ?_, ?_, fun m hm => absurd hm (Nat.not_lt_zero m), fun m hm => absurd hm (Nat.not_lt_zero m)⟩
    all_goals (repeat (first | rw [xp_xpW] | rw [xp_xpW' _ _ _ (by decide)]))
    all_goals rfl
theorem x_read {S0 : XS} {T A : MS} (ht : tT T ≤ 12) (hn : nT T < 16) (h0 : ∀ i, i < tT T → fX4_codeAt (nI i) S0 = some (ma T 2 i)) (h1 : ∀ i, i ≤ tT T → fX4_codeAt (nI i - 1) S0 = some (ahT T i)) (hlen : xi S0 3 = nI (tT T)) (hg : goodT T) (hrow : rowIs T A (rwT T (tT T))) (hr : Int32) :
    ∃ B, fX1_read (nT T) hr S0 = some B ∧ frP (nT T) S0 B ∧ parY (nT T) (bi (onT T)) hr A B := by
  have hpos : 0 < tT T := by
    rcases Nat.eq_zero_or_pos (tT T) with z | z
    · exact absurd (Or.inl z) hg.2.2
    · exact z
  have hok := hg.1
  have hro := row_ok_of hrow ht hok
  have hcle := rwT_le T (tT T)
  obtain ⟨hcA, hitA⟩ := row_of hrow (by omega)
  obtain ⟨F, hF, frF, fxF, rwF⟩ := x_forget (nT T) (by omega) S0
  let F1 := xpW F (nT T) 4 hr
  have frF1 : frP (nT T) S0 F1 := frP_p frF _ _
  let F2 := xpW F1 (nT T) 3 (bi (onT T))
  have frF2 : frP (nT T) S0 F2 := frP_p frF1 _ _
  have fxF2 : freshX (nT T) (bi (onT T)) hr F2 := by
    obtain ⟨a1, a2, a3, a4, a5, a6, a7, a8⟩ := fxF hr
    refine ⟨xp_xpW _ _ _ _, ?_, ?_, ?_, ?_, ?_, ?_, ?_⟩
    all_goals (show xp (xpW F1 (nT T) 3 _) (nT T) _ = _; rw [xp_xpW' _ _ _ (by decide)]; assumption)
  have rwF2 : rowX2 (nT T) (0, fun _ => 0, fun _ => -9) F2 := by
    obtain ⟨a1, a2, a3, a4, a5, a6⟩ := rwF hr
    refine ⟨?_, ?_, ?_, ?_, fun m hm => absurd hm (Nat.not_lt_zero m), fun m hm => absurd hm (Nat.not_lt_zero m)⟩
    all_goals (show xp (xpW F1 (nT T) 3 _) (nT T) _ = _; rw [xp_xpW' _ _ _ (by decide)]; assumption)
  have e25 : fX1_read (nT T) hr S0 = (if onT T = true then lp (fun k q => bX1_read_41 k (nT T) q.1 q.2) FU (1, F2) else lp (fun k q => bX1_read_41 k (nT T) q.1 q.2) FU (0, F2)) := by
    unfold fX1_read
    rw [if_pos (by omega), hF, ob1_s, bnd_s]
    show ob1 (fX4_codeAt 0 F1) (fun r42 => if r42 = 43 then bX1_read_25 (nT T) true F1 else bX1_read_25 (nT T) false F1) = _
    rw [code_fr (S := S0) (by rw [frF1.1]) (by rw [frF1.2.1]), show fX4_codeAt 0 S0 = some (ma T 2 0) from h0 0 hpos, ob1_s]
    have e : ∀ b : Bool, onT T = b → bX1_read_25 (nT T) b F1 = (if onT T = true then lp (fun k q => bX1_read_41 k (nT T) q.1 q.2) FU (1, F2) else lp (fun k q => bX1_read_41 k (nT T) q.1 q.2) FU (0, F2)) := by
      intro b hb
      unfold bX1_read_25
      rw [bnd_s, xp_xpW, if_bi, ← hb]
    by_cases h43 : ma T 2 0 = 43
    · rw [if_pos h43]; exact e true (decide_eq_true ⟨hpos, h43⟩)
    · rw [if_neg h43]; exact e false (decide_eq_false (fun z => h43 z.2))
  have loop : ∀ i0, i0 ≤ tT T → (∀ i, i0 ≤ i → ¬ (i = 0 ∧ ma T 2 0 = 43)) → rwT T i0 = (0, fun _ => 0, fun _ => -9) → ∃ B, lp (fun k q => bX1_read_41 k (nT T) q.1 q.2) FU (nI i0, F2) = some B ∧ (frP (nT T) S0 B ∧ parY (nT T) (bi (onT T)) hr A B) := by
    intro i0 hi0 hno hrw0
    refine lp_ex _ (fun j q => q.1 = nI (i0 + j) ∧ frP (nT T) S0 q.2 ∧ freshX (nT T) (bi (onT T)) hr q.2 ∧ rowX2 (nT T) (rwT T (i0 + j)) q.2) _ (tT T - i0) (by omega) _ ⟨rfl, frF2, fxF2, by rw [Nat.add_zero, hrw0]; exact rwF2⟩ ?_ ?_
    · rintro j ⟨x, C⟩ hj ⟨hx, b1, b2, b3⟩
      have hx : x = nI (i0 + j) := hx
      subst hx
      obtain ⟨B, hB, hk⟩ := x_readStep (S0 := S0) (A := C) (by omega) h0 h1 hlen ht (i := i0 + j) (by omega) (hno _ (by omega)) (fun m hm => hok m (by omega)) b1 b2 b3
      exact ⟨(nI (i0 + j + 1), B), ⟨rfl, hB.1, hB.2.1, hB.2.2⟩, hk⟩
    · rintro ⟨x, C⟩ ⟨hx, b1, b2, b3⟩
      have hx : x = nI (i0 + (tT T - i0)) := hx
      have b1 : frP (nT T) S0 C := b1
      have b2 : freshX (nT T) (bi (onT T)) hr C := b2
      have b3z : rowX2 (nT T) (rwT T (i0 + (tT T - i0))) C := b3
      rw [show i0 + (tT T - i0) = tT T by omega] at hx b3z
      subst hx
      obtain ⟨c2, c6, c7, c8, cq, cw⟩ := b3z
      have hitm : itmX (nT T) A C := by
        refine ⟨by rw [hcA]; exact c2, fun m hm => ?_, fun m hm h5 => ?_⟩
        · rw [hcA] at hm
          rw [(hitA m hm).1]; exact cq m hm
        · rw [hcA] at hm
          rw [(hitA m hm).1] at h5
          rw [(hitA m hm).2]; exact cw m hm h5
      obtain ⟨d3, d4, d5, d9, d10, d11, d12, d13⟩ := b2
      obtain ⟨B1, hB1, frB1, vb1⟩ := x_noteVerbs (by omega) hro hitm ⟨d9, d10, d11, d12⟩
      obtain ⟨v9, v10, v11, v12⟩ := vb1
      have qA : quT A (nT T) = quR (rwT T (tT T)) := by rw [rw_q T _ hok]; exact qu_of hrow ht hok
      have mA : meT A (nT T) = meR (rwT T (tT T)) := by
        unfold meT meR
        rw [hcA]
        exact orN_cong _ (fun m hm => by rw [(hitA m hm).2])
      have sA : stT A (nT T) = stR (rwT T (tT T)) := by
        unfold stT stR
        rw [hcA]
        exact orN_cong _ (fun m hm => by rw [(hitA m hm).2, (hitA m hm).1])
      have pre : ∀ k, k ≠ 9 → k ≠ 10 → k ≠ 11 → k ≠ 12 → xp B1 (nT T) k = xp C (nT T) k := frB1.2.2
      have all1 : ∀ B2, frP (nT T) B1 B2 → (∀ k, k ≠ 13 → xp B2 (nT T) k = xp B1 (nT T) k) → xp B2 (nT T) 13 = doT A (nT T) → frP (nT T) S0 B2 ∧ parY (nT T) (bi (onT T)) hr A B2 := by
        intro B2 hfr hk h13
        refine ⟨frP_trans b1 (frP_trans frB1.1 hfr), ?_, ?_, ?_, ?_, ?_, ?_, ?_, ?_, ?_, ?_, ?_, h13⟩
        · rw [hk 2 (by decide), pre 2 (by decide) (by decide) (by decide) (by decide), c2]; exact hrow.1.symm
        · rw [hk 3 (by decide), pre 3 (by decide) (by decide) (by decide) (by decide)]; exact d3
        · rw [hk 4 (by decide), pre 4 (by decide) (by decide) (by decide) (by decide)]; exact d4
        · rw [hk 5 (by decide), pre 5 (by decide) (by decide) (by decide) (by decide)]; exact d5
        · rw [hk 6 (by decide), pre 6 (by decide) (by decide) (by decide) (by decide), qA]; exact c6
        · rw [hk 7 (by decide), pre 7 (by decide) (by decide) (by decide) (by decide), mA]; exact c7
        · rw [hk 8 (by decide), pre 8 (by decide) (by decide) (by decide) (by decide), sA]; exact c8
        · rw [hk 9 (by decide)]; exact v9
        · rw [hk 10 (by decide)]; exact v10
        · rw [hk 11 (by decide)]; exact v11
        · rw [hk 12 (by decide)]; exact v12
      have h13 : xp B1 (nT T) 13 = 255 := by rw [pre 13 (by decide) (by decide) (by decide) (by decide)]; exact d13
      obtain ⟨v, hv⟩ := x_noteDoer (A := A) (by omega) hro (frV_itm frB1 hitm) v9 h13
      have eend : ∀ k, bX1_read_41 k (nT T) (nI (tT T)) C = ob1 (fX1_noteDoer (nT T) B1) (fun S26 => some S26) := by
        intro k
        unfold bX1_read_41 fX4_length
        rw [b1.1, hlen, if_pos (Int32.le_refl _), hB1, ob1_s]
      rcases hv with ⟨hd, hv⟩ | ⟨hd, hv⟩
      · refine ⟨some (xpW B1 (nT T) 13 v), ⟨_, rfl, all1 _ (frP_p (frP_rfl _ _) _ _) (fun k hk => xp_xpW' B1 _ v hk) (by rw [xp_xpW]; exact hv)⟩, fun k => ?_⟩
        dsimp only
        rw [eend, hd, ob1_s]
      · refine ⟨some B1, ⟨_, rfl, all1 _ (frP_rfl _ _) (fun k hk => rfl) (by rw [h13]; exact hv)⟩, fun k => ?_⟩
        dsimp only
        rw [eend, hd, ob1_s]
  rw [e25]
  cases hon : onT T
  · rw [if_neg (by decide)]
    have := loop 0 (Nat.zero_le _) (fun i _ z => of_decide_eq_false hon ⟨hpos, z.2⟩) rfl
    rw [hon] at this
    exact this
  · rw [if_pos rfl]
    have := loop 1 hpos (fun i hi z => by omega) (rw_on (i := 0) ⟨rfl, (of_decide_eq_true hon).2⟩)
    rw [hon] at this
    exact this
theorem sim_paragraph {S : XS} {T : MS} (h : Rel S T) : ∃ r S' T', fX5_paragraph S = some (r, S') ∧ fX6_paragraph T = some (r, T') ∧ Rel S' T' := by
  have hT := h.1
  have hn := hT.1
  have ht := hT.2.1
  unfold fX5_paragraph fX6_paragraph
  unfold fX3_isFull
  rw [bnd_s, h.2.2.2.2.2.2.2.1, hn.1]
  by_cases hfull : nT T = 16
  · rw [hfull, if_neg (show ¬ nI 16 < 16 by decide), if_neg (by decide), if_pos (show nI 16 = 16 by decide)]
    exact ⟨_, _, _, rfl, rfl, h⟩
  · have hlt : nT T < 16 := by omega
    rw [if_pos (show nI (nT T) < 16 from nI_lt (b := 16) hlt (by omega)), if_pos (show bi false = 0 from rfl), if_neg (show ¬ nI (nT T) = 16 from fun z => hfull ((nI_eq (b := 16) (by omega) (by omega)).mp z)), x_mayGoOn h, ob1_s]
    obtain ⟨ff, fg⟩ := x_firstFault h
    rcases m_readsText hT hlt with ⟨A, i, hA, hs, hp, hfa⟩ | ⟨A, hA, hs, hrow, h6, hg⟩
    · rw [hA, ob2_s, if_pos (show bi false = 0 from rfl), ff i hfa, ob1_s, if_neg (show ¬ nI i = -9 from fun z => by
        have h0 : ¬ nI i < 0 := nI_pos (by have := hfa.1; omega)
        rw [z] at h0
        exact absurd (by decide) h0), hp]
      refine ⟨_, _, _, rfl, rfl, ?_⟩
      -- a fault: only row n, place have changed
      obtain ⟨-, x0, x1, x2, x3, x4, x5, x6, x7, x8⟩ := h
      have hrE : ∀ k, k < nT T → rowEq T A k := fun k hk => ⟨(hs.2.2.1 k (by omega)).1, fun m hm => hs.2.2.2 (12 * k + m) (by omega)⟩
      have h1A : ma A 1 = ma T 1 := hs.2.1 1 (by decide) (by decide) (by decide) (by decide)
      have hth : thT A = thT T := by
        have : thB A = thB T := by funext p; unfold thB; rw [h1A]
        unfold thT; rw [this]
      have hnA : nT A = nT T := by unfold nT; rw [hs.1 3 (by omega)]
      have htA : tT A = tT T := by unfold tT; rw [hs.1 2 (by omega)]
      have m6 : ∀ k, k < nT T → ma A 6 k = ma T 6 k := fun k hk => (hs.2.2.1 k (by omega)).2
      have m7 : ma A 7 = ma T 7 := hs.2.1 7 (by decide) (by decide) (by decide) (by decide)
      have m8 : ma A 8 = ma T 8 := hs.2.1 8 (by decide) (by decide) (by decide) (by decide)
      refine ⟨⟨?_, ?_, ?_, ?_, ?_, ?_⟩, ?_, ?_, ?_, ?_, ?_, ?_, ?_, ?_, x8⟩
      · rw [hs.1 3 (by omega), hnA]; exact hn
      · rw [hs.1 2 (by omega), htA]; exact ht
      · rw [h1A]; exact hT.2.2.1
      · rw [hs.1 0 (by omega)]; exact hT.2.2.2.1
      · rw [hs.1 1 (by omega)]; exact hT.2.2.2.2.1
      · intro k hk
        rw [hnA] at hk
        exact ⟨row_ok (hT.2.2.2.2.2 k hk).1 (hrE k hk), more_row (m6 k hk) (congrFun m7 k) (congrFun m8 k) (hT.2.2.2.2.2 k hk).2⟩
      · rw [hs.1 0 (by omega)]; exact x0
      · rw [hs.1 1 (by omega)]; exact x1
      · rw [hth]; exact x2
      · rw [h1A]; exact x3
      · rw [hs.1 2 (by omega)]; exact x4
      · rw [htA, hs.2.1 2 (by decide) (by decide) (by decide) (by decide)]; exact x5
      · rw [hs.1 3 (by omega)]; exact x6
      · intro k hk
        rw [hnA] at hk
        exact par_row (hT.2.2.2.2.2 k hk).1 (hrE k hk) (m6 k hk) (congrFun m7 k) (congrFun m8 k) (fun _ => rfl) (x7 k hk)
    · let S5 := xiW S 4 (nI (nT T + 1))
      have s54 : xi S5 4 = nI (nT T + 1) := xi_xiW S 4 _
      have s53 : xi S5 3 = xi S 3 := xi_xiW' S _ (by decide)
      have hcd := fun x => code_fr (S := S) (S' := S5) s53 rfl x
      obtain ⟨B, hB, frB, pY⟩ := x_read (S0 := S5) (T := T) (A := A) ht.2 hlt (fun i hi => by rw [hcd]; exact x_codeAt h hi) (fun i hi => by rw [hcd]; exact x_codeAhead h hi) (by rw [s53, h.2.2.2.2.2.1]; exact ht.1) hg hrow (xi S 0)
      have hap : fX3_append (xi S 0) S = some B := by
        unfold fX3_append fX3_isFull
        rw [h.2.2.2.2.2.2.2.1, hn.1, if_pos (show nI (nT T) < 16 from nI_lt (b := 16) hlt (by omega)), if_pos (show bi false = 0 from rfl), nI_1, bnd_s]
        show ob1 (fX3_paragraphAt (xi S5 4 - 1) S5) (fun r6 => ob1 (fX1_read r6 (xi S 0) S5) (fun S9 => some S9)) = _
        have hpa : fX3_paragraphAt (nI (nT T)) S5 = some (nT T) := by
          unfold fX3_paragraphAt fX3_holds
          rw [s54, if_neg (nI_pos (by omega)), if_neg (nI_ge (by omega) (by omega)), if_neg (by decide), if_neg (show ¬ (16 : Int32) ≤ nI (nT T) from nI_ge (b := 16) hlt (by omega)), ck_in (inb_nI hlt (by decide)), cl_nI (by omega)]
        rw [s54, nI_pred, hpa, ob1_s, hB, ob1_s]
      rw [hA, ob2_s, if_neg (show ¬ bi true = 0 by decide), fg hg, ob1_s, if_pos rfl, hap, ob1_s]
      rw [ck_in (inb_nI hlt (by decide)), cl_nI (by omega), bnd_s, ck_in (inb_nI hlt (by decide)), bnd_s, bnd_s, bnd_s]
      unfold fX4_clear fX3_length
      rw [bnd_s, ob1_s]
      let T1 := maW (maW A 7 (nT T) (mi A 0)) 8 (nT T) (-9)
      let T4 := miW (miW T1 2 0) 3 (nI (nT T + 1))
      have hA3 : mi A 3 = nI (nT T) := by rw [hs.1 3 (by omega)]; exact hn.1
      have e3 : mi (miW T1 2 0) 3 = nI (nT T) := by rw [mi_miW' _ _ (by decide)]; exact hA3
      show ∃ r S' T', some (xi (xiW B 3 0) 4 - 1, xiW B 3 0) = some (r, S') ∧ some (nI (nT T), miW (miW T1 2 0) 3 (mi (miW T1 2 0) 3 + 1)) = some (r, T') ∧ Rel S' T'
      have b4 : xi (xiW B 3 0) 4 = nI (nT T + 1) := by rw [xi_xiW' _ _ (by decide), frB.1]; exact s54
      rw [e3, nI_1, b4, nI_pred]
      refine ⟨_, _, _, rfl, rfl, ?_⟩
      show Rel (xiW B 3 0) T4
      obtain ⟨-, x0, x1, x2, x3, x4, x5, x6, x7, x8⟩ := h
      have m43 : mi T4 3 = nI (nT T + 1) := mi_miW _ 3 _
      have m42 : mi T4 2 = 0 := (mi_miW' _ _ (by decide)).trans (mi_miW _ 2 _)
      have m4k : ∀ k, k ≠ 2 → k ≠ 3 → k ≤ 3 → mi T4 k = mi T k := fun k a b c => (mi_miW' _ _ b).trans ((mi_miW' _ _ a).trans (hs.1 k c))
      have a4 : ∀ a, a ≠ 7 → a ≠ 8 → ma T4 a = ma A a := fun a h7 h8 => (ma_maW' (maW A 7 _ _) _ _ h8).trans (ma_maW' A _ _ h7)
      have a47 : ma T4 7 = upd (ma T 7) (nT T) (mi T 0) := by
        show ma (maW (maW A 7 _ _) 8 _ _) 7 = _
        rw [ma_maW' _ _ _ (by decide), ma_maW, hs.2.1 7 (by decide) (by decide) (by decide) (by decide), hs.1 0 (by omega)]
      have a48 : ma T4 8 = upd (ma T 8) (nT T) (-9) := by
        show ma (maW (maW A 7 _ _) 8 _ _) 8 = _
        rw [ma_maW, ma_maW' _ _ _ (by decide), hs.2.1 8 (by decide) (by decide) (by decide) (by decide)]
      have hn4 : nT T4 = nT T + 1 := by unfold nT; rw [m43, cl_nI (by omega)]; rfl
      have ht4 : tT T4 = 0 := by unfold tT; rw [m42]; rfl
      have h14 : ma T4 1 = ma T 1 := (a4 1 (by decide) (by decide)).trans (hs.2.1 1 (by decide) (by decide) (by decide) (by decide))
      have hth : thT T4 = thT T := by
        have : thB T4 = thB T := by funext p; unfold thB; rw [h14]
        unfold thT; rw [this]
      have hrE : ∀ k, k < nT T → rowEq T T4 k := fun k hk => ⟨by rw [a4 3 (by decide) (by decide)]; exact (hs.2.2.1 k (by omega)).1, fun m hm => by
        unfold itT whT
        rw [a4 4 (by decide) (by decide), a4 5 (by decide) (by decide)]
        exact hs.2.2.2 (12 * k + m) (by omega)⟩
      have m6 : ∀ k, k < nT T → ma T4 6 k = ma T 6 k := fun k hk => by rw [a4 6 (by decide) (by decide)]; exact (hs.2.2.1 k (by omega)).2
      have m7 : ∀ k, k < nT T → ma T4 7 k = ma T 7 k := fun k hk => by rw [a47, upd_n _ _ (by omega)]
      have m8 : ∀ k, k < nT T → ma T4 8 k = ma T 8 k := fun k hk => by rw [a48, upd_n _ _ (by omega)]
      have hrA : rowEq A T4 (nT T) := rowEq_of _ (a4 3 (by decide) (by decide)) (a4 4 (by decide) (by decide)) (a4 5 (by decide) (by decide))
      have hokA := row_ok_of hrow ht.2 hg.1
      have n6 : ma T4 6 (nT T) = bi (onT T) := by rw [a4 6 (by decide) (by decide)]; exact h6
      have n7 : ma T4 7 (nT T) = mi T 0 := by rw [a47, upd_s]
      have n8 : ma T4 8 (nT T) = -9 := by rw [a48, upd_s]
      have xpB : ∀ i, i ≠ nT T → xp (xiW B 3 0) i = xp S i := fun i hi => frB.2.2 i hi
      have xpn : ∀ j, xp (xiW B 3 0) (nT T) j = xp B (nT T) j := fun j => rfl
      refine ⟨⟨?_, ?_, ?_, ?_, ?_, ?_⟩, ?_, ?_, ?_, ?_, ?_, ?_, ?_, ?_, ?_⟩
      · rw [hn4]; exact ⟨m43, by omega⟩
      · rw [ht4]; exact ⟨m42, by omega⟩
      · rw [h14]; exact hT.2.2.1
      · rw [m4k 0 (by decide) (by decide) (by omega)]; exact hT.2.2.2.1
      · rw [m4k 1 (by decide) (by decide) (by omega)]; exact hT.2.2.2.2.1
      · intro k hk
        rw [hn4] at hk
        by_cases e : k = nT T
        · subst e
          refine ⟨row_ok hokA hrA, ?_, ?_, ?_⟩
          · rw [n6]; cases onT T
            · exact Or.inl rfl
            · exact Or.inr rfl
          · rw [n7]; exact hT.2.2.2.1
          · exact Or.inl n8
        · have hk : k < nT T := by omega
          exact ⟨row_ok (hT.2.2.2.2.2 k hk).1 (hrE k hk), more_row (m6 k hk) (m7 k hk) (m8 k hk) (hT.2.2.2.2.2 k hk).2⟩
      · rw [m4k 0 (by decide) (by decide) (by omega), xi_xiW' _ _ (by decide), frB.1, xi_xiW' _ _ (by decide)]; exact x0
      · rw [m4k 1 (by decide) (by decide) (by omega), xi_xiW' _ _ (by decide), frB.1, xi_xiW' _ _ (by decide)]; exact x1
      · rw [hth, xi_xiW' _ _ (by decide), frB.1, xi_xiW' _ _ (by decide)]; exact x2
      · rw [h14]
        show ∀ p, p < 8 → ma T 1 p ≠ -9 → xa B 2 p = ma T 1 p
        rw [frB.2.1]; exact x3
      · rw [m42]; exact xi_xiW _ 3 _
      · intro j hj
        rw [ht4] at hj
        exact absurd hj (Nat.not_lt_zero j)
      · rw [m43]; exact b4
      · intro k hk
        rw [hn4] at hk
        by_cases e : k = nT T
        · subst e
          obtain ⟨q1, q2, q3, q4, q5, q6, q7, q8⟩ := row_eqs hokA hrA
          obtain ⟨y2, y3, y4, y5, y6, y7, y8, y9, y10, y11, y12, y13⟩ := pY
          unfold parR
          rw [q1, q2, q3, q4, q5, q6, q7, q8, n6, n7, n8, hrA.1]
          exact ⟨y2, y3, y4.trans x0, y5, y6, y7, y8, y9, y10, y11, y12, y13⟩
        · have hk : k < nT T := by omega
          exact par_row (hT.2.2.2.2.2 k hk).1 (hrE k hk) (m6 k hk) (m7 k hk) (m8 k hk) (fun j => by rw [xpB k e]) (x7 k hk)
      · rw [xpB 16 (by omega)]; exact x8
