/-! the whole text: how the reference reads it, and what its row is -/
theorem nI_m1 {n : Nat} (h : 0 < n) : nI n - 1 = nI (n - 1) := by
  obtain ⟨c, rfl⟩ : ∃ c, n = c + 1 := ⟨n - 1, by omega⟩
  exact nI_pred c
theorem rw_on {T : MS} {i : Nat} (h : i = 0 ∧ ma T 2 0 = 43) : rwT T (i + 1) = rwT T i := by
  show (if i = 0 ∧ ma T 2 0 = 43 then _ else _) = _
  rw [if_pos h]
theorem rw_at {T : MS} {i : Nat} (h : ¬ (i = 0 ∧ ma T 2 0 = 43)) (h2 : ahT T i = 64) : rwT T (i + 1) = ((rwT T i).1, (rwT T i).2.1, upd (rwT T i).2.2 ((rwT T i).1 - 1) (ma T 2 i - 65)) := by
  show (if i = 0 ∧ ma T 2 0 = 43 then _ else if ahT T i = 64 then _ else _) = _
  rw [if_neg h, if_pos h2]
theorem rw_64 {T : MS} {i : Nat} (h : ¬ (i = 0 ∧ ma T 2 0 = 43)) (h2 : ahT T i ≠ 64) (h3 : ma T 2 i = 64) : rwT T (i + 1) = rwT T i := by
  show (if i = 0 ∧ ma T 2 0 = 43 then _ else if ahT T i = 64 then _ else if ma T 2 i = 64 then _ else _) = _
  rw [if_neg h, if_neg h2, if_pos h3]
theorem rw_it {T : MS} {i : Nat} (h : ¬ (i = 0 ∧ ma T 2 0 = 43)) (h2 : ahT T i ≠ 64) (h3 : ma T 2 i ≠ 64) : rwT T (i + 1) = ((rwT T i).1 + 1, upd (rwT T i).2.1 (rwT T i).1 (fX6_sortOfItem (ma T 2 i)), upd (rwT T i).2.2 (rwT T i).1 (if fX6_sortOfItem (ma T 2 i) = 5 then ma T 2 i - 65 else -9)) := by
  show (if i = 0 ∧ ma T 2 0 = 43 then _ else if ahT T i = 64 then _ else if ma T 2 i = 64 then _ else _) = _
  rw [if_neg h, if_neg h2, if_neg h3]
theorem ah_s (T : MS) (i : Nat) : ahT T (i + 1) = ma T 2 i := rfl
theorem ok_at {T : MS} {i : Nat} (h : okT T i = true) (h2 : ahT T i = 64) : nmT T (ma T 2 i) = true := by
  unfold okT at h; rw [if_pos h2] at h; exact h
theorem ok_64 {T : MS} {i : Nat} (h : okT T i = true) (h2 : ahT T i ≠ 64) (h3 : ma T 2 i = 64) : ahT T i = 113 := by
  unfold okT at h
  rw [if_neg h2, if_neg (by rw [h3]; decide), if_pos h3] at h
  exact of_decide_eq_true h
theorem ok_nm {T : MS} {i : Nat} (h : okT T i = true) (h1 : ¬ (i = 0 ∧ ma T 2 0 = 43)) (h2 : ahT T i ≠ 64) (h3 : ma T 2 i ≠ 64) (h5 : fX6_sortOfItem (ma T 2 i) = 5) : nmT T (ma T 2 i) = true := by
  have h43 : ma T 2 i ≠ 43 := by
    intro e
    unfold okT at h
    rw [if_neg h2, if_pos e] at h
    rw [Bool.and_eq_true] at h
    have h0 := of_decide_eq_true h.1
    exact h1 ⟨h0, by rw [← h0]; exact e⟩
  unfold okT at h
  rw [if_neg h2, if_neg h43, if_neg h3] at h
  by_cases z : ma T 2 i = 104 ∨ ma T 2 i = 111 ∨ ma T 2 i = 113 ∨ ma T 2 i = 115 ∨ ma T 2 i = 118
  · exfalso
    rcases z with z | z | z | z | z <;> rw [z] at h5 <;> exact absurd h5 (by decide)
  · rw [if_neg z] at h; exact h
theorem rw_J (T : MS) : ∀ i, (∀ j, j < i → okT T j = true) → (∀ m, m < (rwT T i).1 → itOk ((rwT T i).2.1 m) ((rwT T i).2.2 m)) ∧ ((ahT T i = 113 ∨ ahT T i = 64) → ∃ c, (rwT T i).1 = c + 1 ∧ (rwT T i).2.1 c = 0 ∧ (rwT T i).2.2 c = -9) := by
  intro i
  induction i with
  | zero =>
    intro _
    refine ⟨fun m hm => absurd hm (Nat.not_lt_zero m), fun h => ?_⟩
    have : ahT T 0 = -1 := rfl
    rw [this] at h
    rcases h with h | h <;> exact absurd h (by decide)
  | succ i ih =>
    intro hok
    obtain ⟨ih1, ih2⟩ := ih (fun j hj => hok j (by omega))
    have hi := hok i (by omega)
    rw [ah_s]
    by_cases h1 : i = 0 ∧ ma T 2 0 = 43
    · rw [rw_on h1]
      refine ⟨ih1, fun h => ?_⟩
      rw [h1.1, h1.2] at h
      rcases h with h | h <;> exact absurd h (by decide)
    · by_cases h2 : ahT T i = 64
      · have hn := ok_at hi h2
        obtain ⟨c, hc, hk, hm⟩ := ih2 (Or.inr h2)
        obtain ⟨p, hp, e, -⟩ := nm_in hn
        rw [rw_at h1 h2]
        refine ⟨fun m hm' => ?_, fun h => ?_⟩
        · have hm' : m < (rwT T i).1 := hm'
          show itOk ((rwT T i).2.1 m) (upd (rwT T i).2.2 ((rwT T i).1 - 1) (ma T 2 i - 65) m)
          by_cases e2 : m = (rwT T i).1 - 1
          · have e3 : m = c := by omega
            rw [← e2, upd_s, e, e3, hk]
            exact Or.inl ⟨rfl, Or.inr ⟨p, hp, rfl⟩⟩
          · rw [upd_n _ _ e2]; exact ih1 m hm'
        · have := nm_ne hn
          rcases h with h | h
          · exact absurd h this.2.1
          · exact absurd h this.1
      · by_cases h3 : ma T 2 i = 64
        · rw [rw_64 h1 h2 h3]
          exact ⟨ih1, fun _ => ih2 (Or.inl (ok_64 hi h2 h3))⟩
        · rw [rw_it h1 h2 h3]
          refine ⟨fun m hm => ?_, fun h => ?_⟩
          · have hm : m < (rwT T i).1 + 1 := hm
            show itOk (upd (rwT T i).2.1 (rwT T i).1 _ m) (upd (rwT T i).2.2 (rwT T i).1 _ m)
            by_cases e : m = (rwT T i).1
            · rw [e, upd_s, upd_s]
              rcases sort_cases (ma T 2 i) with ⟨a, b⟩ | ⟨a, b⟩ | ⟨a, b⟩ | ⟨a, b⟩ | ⟨a, b⟩ | ⟨_, _, _, _, _, b⟩
              · rw [b, if_neg (by decide)]; exact Or.inl ⟨rfl, Or.inl rfl⟩
              · rw [b, if_neg (by decide)]; exact Or.inr (Or.inl ⟨Or.inl rfl, rfl⟩)
              · rw [b, if_neg (by decide)]; exact Or.inr (Or.inl ⟨Or.inr (Or.inl rfl), rfl⟩)
              · rw [b, if_neg (by decide)]; exact Or.inr (Or.inl ⟨Or.inr (Or.inr (Or.inl rfl)), rfl⟩)
              · rw [b, if_neg (by decide)]; exact Or.inr (Or.inl ⟨Or.inr (Or.inr (Or.inr rfl)), rfl⟩)
              · obtain ⟨p, hp, ep, -⟩ := nm_in (ok_nm hi h1 h2 h3 b)
                rw [b, if_pos rfl, ep]
                exact Or.inr (Or.inr ⟨rfl, p, hp, rfl⟩)
            · rw [upd_n _ _ e, upd_n _ _ e]; exact ih1 m (by omega)
          · rcases h with h | h
            · refine ⟨(rwT T i).1, rfl, ?_, ?_⟩
              · show upd _ _ _ (rwT T i).1 = 0
                rw [upd_s, h]; decide
              · show upd _ _ _ (rwT T i).1 = -9
                rw [upd_s, h]; decide
            · exact absurd h h3
def quR (r : Nat × (Nat → Int32) × (Nat → Int32)) : Nat := cntN (fun i => decide (r.2.1 i = 0)) r.1
def qcT (T : MS) (i : Nat) : Nat := cntN (fun j => decide (ma T 2 j = 113)) i
theorem sort_0 (x : Int32) : (fX6_sortOfItem x = 0) ↔ x = 113 := by
  constructor
  · intro h
    rcases sort_cases x with ⟨a, b⟩ | ⟨a, b⟩ | ⟨a, b⟩ | ⟨a, b⟩ | ⟨a, b⟩ | ⟨_, _, _, _, _, b⟩
    · exact a
    all_goals (rw [b] at h; exact absurd h (by decide))
  · intro h; rw [h]; decide
theorem rw_q (T : MS) : ∀ i, (∀ j, j < i → okT T j = true) → quR (rwT T i) = qcT T i := by
  intro i
  induction i with
  | zero => intro _; rfl
  | succ i ih =>
    intro hok
    have ih := ih (fun j hj => hok j (by omega))
    have hi := hok i (by omega)
    have same : ma T 2 i ≠ 113 → qcT T (i + 1) = qcT T i := fun h => cntN_f (decide_eq_false h)
    by_cases h1 : i = 0 ∧ ma T 2 0 = 43
    · rw [rw_on h1, ih, same]
      rw [h1.1, h1.2]; decide
    · by_cases h2 : ahT T i = 64
      · rw [rw_at h1 h2, same (nm_ne (ok_at hi h2)).2.1, ← ih]; rfl
      · by_cases h3 : ma T 2 i = 64
        · rw [rw_64 h1 h2 h3, ih, same]
          rw [h3]; decide
        · rw [rw_it h1 h2 h3]
          have e0 : cntN (fun m => decide (upd (rwT T i).2.1 (rwT T i).1 (fX6_sortOfItem (ma T 2 i)) m = 0)) (rwT T i).1 = quR (rwT T i) := by
            refine cntN_cong _ (fun m hm => ?_)
            rw [upd_n _ _ (by omega)]
          show cntN (fun m => decide (upd (rwT T i).2.1 (rwT T i).1 (fX6_sortOfItem (ma T 2 i)) m = 0)) ((rwT T i).1 + 1) = _
          by_cases h4 : ma T 2 i = 113
          · rw [cntN_t (decide_eq_true (by rw [upd_s]; exact (sort_0 _).mpr h4)), e0, ih]
            exact (cntN_t (decide_eq_true h4)).symm
          · rw [cntN_f (decide_eq_false (by rw [upd_s]; exact fun z => h4 ((sort_0 _).mp z))), e0, ih]
            exact (same h4).symm
theorem rw_none {T : MS} {i : Nat} (hok : ∀ j, j < i → okT T j = true) (h0 : (rwT T i).1 = 0) : i = 0 ∨ ma T 2 0 = 43 := by
  cases i with
  | zero => exact Or.inl rfl
  | succ i =>
    right
    have hi := hok i (by omega)
    obtain ⟨-, J⟩ := rw_J T i (fun j hj => hok j (by omega))
    by_cases h1 : i = 0 ∧ ma T 2 0 = 43
    · exact h1.2
    · exfalso
      by_cases h2 : ahT T i = 64
      · obtain ⟨c, hc, -⟩ := J (Or.inr h2)
        rw [rw_at h1 h2] at h0
        have h0 : (rwT T i).1 = 0 := h0
        omega
      · by_cases h3 : ma T 2 i = 64
        · obtain ⟨c, hc, -⟩ := J (Or.inl (ok_64 hi h2 h3))
          rw [rw_64 h1 h2 h3] at h0
          omega
        · rw [rw_it h1 h2 h3] at h0
          have h0 : (rwT T i).1 + 1 = 0 := h0
          omega
def onT (T : MS) : Bool := decide (0 < tT T ∧ ma T 2 0 = 43)
def badE (T : MS) : Prop := tT T = 0 ∨ (ma T 2 0 = 43 ∧ qcT T (tT T) = 0)
def faultAt (T : MS) (i : Nat) : Prop := i ≤ tT T ∧ (∀ j, j < i → okT T j = true) ∧ ((i < tT T ∧ okT T i = false) ∨ (i = tT T ∧ (ahT T i = 64 ∨ badE T)))
def goodT (T : MS) : Prop := (∀ j, j < tT T → okT T j = true) ∧ ahT T (tT T) ≠ 64 ∧ ¬ badE T
theorem row_of {T A : MS} {r : Nat × (Nat → Int32) × (Nat → Int32)} (h : rowIs T A r) (hr : r.1 ≤ 12) : cT A (nT T) = r.1 ∧ ∀ m, m < r.1 → itT A (nT T) m = r.2.1 m ∧ whT A (nT T) m = r.2.2 m := ⟨by unfold cT; rw [h.1, cl_nI (by omega)], h.2⟩
theorem row_ok_of {T A : MS} {i : Nat} (h : rowIs T A (rwT T i)) (hi : i ≤ 12) (hok : ∀ j, j < i → okT T j = true) : rowOk A (nT T) := by
  have hr := rwT_le T i
  obtain ⟨h1, h2⟩ := row_of h (by omega)
  refine ⟨⟨by rw [h1]; exact h.1, by omega⟩, fun m hm => ?_⟩
  rw [h1] at hm
  rw [(h2 m hm).1, (h2 m hm).2]
  exact (rw_J T i hok).1 m hm
theorem qu_of {T A : MS} {i : Nat} (h : rowIs T A (rwT T i)) (hi : i ≤ 12) (hok : ∀ j, j < i → okT T j = true) : quT A (nT T) = qcT T i := by
  have hr := rwT_le T i
  obtain ⟨h1, h2⟩ := row_of h (by omega)
  unfold quT
  rw [h1, ← rw_q T i hok]
  exact cntN_cong _ (fun m hm => by rw [(h2 m hm).1])
abbrev rtPost (T : MS) (z : Option (Bool × MS)) : Prop := (∃ A' i', z = some (false, A') ∧ stayM T A' ∧ mi A' 4 = nI i' ∧ faultAt T i') ∨ (∃ A', z = some (true, A') ∧ stayM T A' ∧ rowIs T A' (rwT T (tT T)) ∧ ma A' 6 (nT T) = bi (onT T) ∧ goodT T)
abbrev rtInv (T : MS) (q : Int32 × MS) : Prop := q.1 = nI (nT T) ∧ ∃ i, i ≤ tT T ∧ stayM T q.2 ∧ mi q.2 4 = nI i ∧ rowIs T q.2 (rwT T i) ∧ bdT T i ∧ ma q.2 6 (nT T) = bi (onT T) ∧ ∀ j, j < i → okT T j = true
theorem m_textLoop {T : MS} (hT : wfM T) (hn : nT T < 16) (q : Int32 × MS) (hq : rtInv T q) : rtPost T (lp (fun k q => bX6_readsText_71 k q.1 q.2) FU q) := by
  have ht := hT.2.1
  refine lp_wf _ (rtInv T) (fun q => tT T - (mi q.2 4).toNatClampNeg) (rtPost T) ?_ FU q hq (by unfold FU; omega)
  rintro ⟨x, A⟩ ⟨hx, i, hi, hs, hp, hrow, hbd, h6, hok⟩
  have hx : x = nI (nT T) := hx
  have hs : stayM T A := hs
  have hp : mi A 4 = nI i := hp
  have hrow : rowIs T A (rwT T i) := hrow
  have h6 : ma A 6 (nT T) = bi (onT T) := h6
  have hle := rwT_le T i
  subst hx
  have h2 : mi A 2 = nI (tT T) := by rw [hs.1 2 (by omega)]; exact ht.1
  by_cases hend : i = tT T
  · right
    have hqu := qu_of hrow (by omega) hok
    have hro := row_ok_of hrow (by omega) hok
    have hsp := m_speaks A hn hro
    have fin : ∀ b : Bool, (b = true → goodT T) → (b = false → faultAt T (tT T)) → rtPost T (some (b, A)) := by
      intro b h1 h2
      cases b
      · exact Or.inl ⟨A, tT T, rfl, hs, by rw [hp, hend], h2 rfl⟩
      · exact Or.inr ⟨A, rfl, hs, by rw [← hend]; exact hrow, h6, h1 rfl⟩
    have hokT : ∀ j, j < tT T → okT T j = true := fun j hj => hok j (by omega)
    have h64 : ahT T (tT T) ≠ 64 := by rw [← hend]; exact hbd.1
    have bad : badE T → faultAt T (tT T) := fun h => ⟨Nat.le_refl _, hokT, Or.inr ⟨rfl, Or.inr h⟩⟩
    have good : ¬ badE T → goodT T := fun h => ⟨hokT, h64, h⟩
    by_cases hc : (rwT T i).1 = 0
    · have hb : badE T := by
        rcases rw_none hok hc with h | h
        · exact Or.inl (by omega)
        · right
          refine ⟨h, ?_⟩
          rw [← hend, ← rw_q T i hok]
          unfold quR
          rw [hc]; rfl
      refine ⟨some (false, A), fin false (fun z => by cases z) (fun _ => bad hb), fun k => ?_⟩
      dsimp only
      unfold bX6_readsText_71
      rw [h2, hp, hend, if_pos (Int32.le_refl _), ck_in (inb_nI hn (by decide)), cl_nI (by omega), hrow.1, hc, if_pos (by decide)]
    · have ht0 : 0 < tT T := by omega
      cases hon : onT T
      · have hb : ¬ badE T := by
          rintro (z | z)
          · omega
          · have := of_decide_eq_false hon
            exact this ⟨ht0, z.1⟩
        refine ⟨some (true, A), fin true (fun _ => good hb) (fun z => by cases z), fun k => ?_⟩
        dsimp only
        unfold bX6_readsText_71
        rw [h2, hp, hend, if_pos (Int32.le_refl _), ck_in (inb_nI hn (by decide)), cl_nI (by omega), hrow.1, if_neg (nI_nle (by omega) (by omega)), ck_in (inb_nI hn (by decide)), h6, hon, if_pos (show bi false = 0 from rfl)]
      · have on43 := of_decide_eq_true hon
        refine ⟨some (spT A (nT T), A), fin _ (fun z => ?_) (fun z => ?_), fun k => ?_⟩
        · refine good ?_
          rintro (w | w)
          · omega
          · unfold spT at z
            have z := of_decide_eq_true z
            rw [hqu, hend] at z
            omega
        · refine bad (Or.inr ⟨on43.2, ?_⟩)
          unfold spT at z
          have z := of_decide_eq_false z
          rw [hqu, hend] at z
          omega
        · dsimp only
          unfold bX6_readsText_71
          rw [h2, hp, hend, if_pos (Int32.le_refl _), ck_in (inb_nI hn (by decide)), cl_nI (by omega), hrow.1, if_neg (nI_nle (by omega) (by omega)), ck_in (inb_nI hn (by decide)), h6, hon, if_neg (by decide), hsp, ob1_s, if_bi]
          cases spT A (nT T) <;> rfl
  · have hlt : i < tT T := by omega
    rcases m_readsItem hT hn hs hlt hp hrow hbd with ⟨i', A', h1, h3, hf, hs', hp', hrow', hbd', h6', hok'⟩ | ⟨i', A', h1, h3, hf, hs', hp', hok', hend'⟩
    · left
      refine ⟨(nI (nT T), A'), ⟨rfl, i', h3, hs', hp', hrow', hbd', by show ma A' 6 _ = _; rw [h6']; exact h6, fun j hj => ?_⟩, ?_, fun k => ?_⟩
      · rcases Nat.lt_or_ge j i with z | z
        · exact hok j z
        · exact hok' j z hj
      · show tT T - (mi A' 4).toNatClampNeg < tT T - (mi A 4).toNatClampNeg
        rw [hp', hp, cl_nI (by omega), cl_nI (by omega)]
        omega
      · dsimp only
        unfold bX6_readsText_71
        rw [h2, hp, if_neg (nI_ge hlt (by omega)), hf, ob2_s, if_bi, if_pos rfl]
    · right
      refine ⟨some (false, A'), Or.inl ⟨A', i', rfl, hs', hp', h3, fun j hj => ?_, ?_⟩, fun k => ?_⟩
      · rcases Nat.lt_or_ge j i with z | z
        · exact hok j z
        · exact hok' j z hj
      · rcases hend' with z | z
        · exact Or.inl z
        · exact Or.inr ⟨z.1, Or.inl z.2⟩
      · dsimp only
        unfold bX6_readsText_71
        rw [h2, hp, if_neg (nI_ge hlt (by omega)), hf, ob2_s, if_bi, if_neg (by decide)]
theorem m_readsText {T : MS} (hT : wfM T) (hn : nT T < 16) : rtPost T (fX6_readsText (nI (nT T)) T) := by
  have ht := hT.2.1
  let A1 := maW (miW T 4 0) 3 (nT T) 0
  let A2 := maW A1 6 (nT T) (bi (onT T))
  have hs1 : stayM T A1 := stay_3 (stay_p (stay_rfl T) _) _
  have hs2 : stayM T A2 := stay_6 hs1 _
  have h12 : mi A1 2 = nI (tT T) := ht.1
  have h1m : ma A1 2 = ma T 2 := hs1.2.1 2 (by decide) (by decide) (by decide) (by decide)
  have h26 : ma A2 6 (nT T) = bi (onT T) := by
    show ma (maW A1 6 _ _) 6 _ = _
    rw [ma_maW, upd_s]
  have h23 : ma A2 3 (nT T) = nI 0 := by
    show ma (maW A1 6 _ _) 3 _ = _
    rw [ma_maW' _ _ _ (by decide)]
    show ma (maW (miW T 4 0) 3 _ _) 3 _ = _
    rw [ma_maW, upd_s]; rfl
  have h24 : mi A2 4 = nI 0 := mi_miW T 4 0
  have e40 : fX6_readsText (nI (nT T)) T = bX6_readsText_40 (nI (nT T)) (nI (nT T)) (onT T) A1 := by
    unfold fX6_readsText
    rw [bnd_s, ck_in (inb_nI hn (by decide)), cl_nI (by omega), bnd_s]
    show (if mi A1 2 ≤ 0 then _ else ck 0 12 (if ma A1 2 0 = 43 then _ else _)) = _
    rw [h12, h1m]
    by_cases h0 : tT T = 0
    · rw [if_pos (by rw [h0]; decide)]
      have : onT T = false := decide_eq_false (fun z => by omega)
      rw [this]
    · rw [if_neg (nI_nle (by omega) (by omega)), ck_in (by decide)]
      by_cases h43 : ma T 2 0 = 43
      · rw [if_pos h43, show onT T = true from decide_eq_true ⟨by omega, h43⟩]
      · rw [if_neg h43, show onT T = false from decide_eq_false (fun z => h43 z.2)]
  rw [e40]
  unfold bX6_readsText_40
  rw [ck_in (inb_nI hn (by decide)), cl_nI (by omega), bnd_s, ck_in (inb_nI hn (by decide))]
  show rtPost T (if ma A2 6 (nT T) = 0 then lp _ FU (nI (nT T), A2) else if nI (nT T) = 0 then some (false, A2) else ob1 (fX6_speaks (nI (nT T) - 1) A2) (fun r57 => if bi r57 = 0 then some (false, A2) else bnd (miW A2 4 1) (fun S60 => lp _ FU (nI (nT T), S60))))
  rw [h26, if_bi]
  cases hon : onT T
  · rw [if_neg (by decide)]
    refine m_textLoop hT hn _ ⟨rfl, 0, Nat.zero_le _, hs2, h24, ⟨h23, fun m hm => absurd hm (Nat.not_lt_zero m)⟩, ⟨by show (-1 : Int32) ≠ 64; decide, fun _ _ => by show (-1 : Int32) ≠ 113; decide, fun h z => ?_⟩, h26, fun j hj => absurd hj (Nat.not_lt_zero j)⟩
    exact of_decide_eq_false hon ⟨h, z.2⟩
  · have on43 := of_decide_eq_true hon
    rw [if_pos rfl]
    have ok0 : okT T 0 = goT T := by
      unfold okT
      rw [if_neg (by show ¬ (-1 : Int32) = 64; decide), if_pos on43.2]; rfl
    have flt : goT T = false → faultAt T 0 := fun h => ⟨Nat.zero_le _, fun j hj => absurd hj (Nat.not_lt_zero j), Or.inl ⟨on43.1, by rw [ok0]; exact h⟩⟩
    by_cases hz : nT T = 0
    · rw [if_pos (by rw [hz]; rfl)]
      exact Or.inl ⟨A2, 0, rfl, hs2, h24, flt (by unfold goT; rw [decide_eq_false (by omega)]; rfl)⟩
    · have hk : nT T - 1 < nT T := by omega
      have hro := (hT.2.2.2.2.2 (nT T - 1) hk).1
      have heq : rowEq T A2 (nT T - 1) := by
        refine ⟨(hs2.2.2.1 _ (by omega)).1, fun i hi => ?_⟩
        exact hs2.2.2.2 (12 * (nT T - 1) + i) (by omega)
      have hsp := m_speaks A2 (k := nT T - 1) (by omega) (row_ok hro heq)
      have hsv : spT A2 (nT T - 1) = goT T := by
        unfold goT spT
        rw [(row_eqs hro heq).1, decide_eq_true (show 0 < nT T by omega), Bool.true_and]
      rw [if_neg (show ¬ nI (nT T) = 0 from fun z => hz ((nI_eq (b := 0) (by omega) (by omega)).mp z)), nI_m1 (by omega), hsp, hsv, ob1_s, if_bi]
      cases hgo : goT T
      · rw [if_neg (by decide)]
        exact Or.inl ⟨A2, 0, rfl, hs2, h24, flt hgo⟩
      · rw [if_pos rfl, bnd_s]
        let A3 := miW A2 4 1
        have hr1 : rwT T 1 = rwT T 0 := rw_on (i := 0) ⟨rfl, on43.2⟩
        refine m_textLoop hT hn (nI (nT T), A3) ⟨rfl, 1, on43.1, stay_p hs2 _, mi_miW A2 4 1, ?_, ⟨by show ma T 2 0 ≠ 64; rw [on43.2]; decide, fun _ _ => by show ma T 2 0 ≠ 113; rw [on43.2]; decide, fun _ z => by omega⟩, h26, fun j hj => ?_⟩
        · rw [hr1]; exact ⟨h23, fun m hm => absurd hm (Nat.not_lt_zero m)⟩
        · have : j = 0 := by omega
          subst this
          rw [ok0]; exact hgo
