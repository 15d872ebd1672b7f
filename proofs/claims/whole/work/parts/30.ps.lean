/-! the class reads a text into a paragraph -/
theorem xp_xpW (S : XS) (i k : Nat) (v : Int32) : xp (xpW S i k v) i k = v := by show (va_up S.2.2.2 i _ i).1 k = v; unfold va_up; rw [if_pos rfl]; exact if_pos rfl
theorem xp_xpW' (S : XS) (i : Nat) {k j : Nat} (v : Int32) (h : j ≠ k) : xp (xpW S i k v) i j = xp S i j := by show (va_up S.2.2.2 i _ i).1 j = _; unfold va_up; rw [if_pos rfl]; exact if_neg h
theorem xp_xpWo (S : XS) {i m : Nat} (k : Nat) (v : Int32) (h : m ≠ i) : xp (xpW S i k v) m = xp S m := by show (va_up S.2.2.2 i _ m).1 = _; unfold va_up; rw [if_neg h]; rfl
theorem xq_xpW (S : XS) (i k : Nat) (v : Int32) : xq (xpW S i k v) i = xq S i := by show (va_up S.2.2.2 i _ i).2 = _; unfold va_up; rw [if_pos rfl]; rfl
theorem xp_xqW (S : XS) (i a j : Nat) (v : Int32) : xp (xqW S i a j v) i = xp S i := by show (va_up S.2.2.2 i _ i).1 = _; unfold va_up; rw [if_pos rfl]; rfl
theorem xp_xqWo (S : XS) {i m : Nat} (a j : Nat) (v : Int32) (h : m ≠ i) : xp (xqW S i a j v) m = xp S m := by show (va_up S.2.2.2 i _ m).1 = _; unfold va_up; rw [if_neg h]; rfl
theorem xq_xqW (S : XS) (i a j : Nat) (v : Int32) : xq (xqW S i a j v) i a = upd (xq S i a) j v := by show (va_up S.2.2.2 i _ i).2 a = _; unfold va_up; rw [if_pos rfl]; exact if_pos rfl
theorem xq_xqW' (S : XS) (i : Nat) {a b : Nat} (j : Nat) (v : Int32) (h : b ≠ a) : xq (xqW S i a j v) i b = xq S i b := by show (va_up S.2.2.2 i _ i).2 b = _; unfold va_up; rw [if_pos rfl]; exact if_neg h
/-- only paragraph n is other -/
def frP (n : Nat) (S S' : XS) : Prop := xi S' = xi S ∧ xa S' = xa S ∧ ∀ i, i ≠ n → xp S' i = xp S i
theorem frP_rfl (n : Nat) (S : XS) : frP n S S := ⟨rfl, rfl, fun _ _ => rfl⟩
theorem frP_trans {n : Nat} {A B C : XS} (h : frP n A B) (h2 : frP n B C) : frP n A C := ⟨h2.1.trans h.1, h2.2.1.trans h.2.1, fun i hi => (h2.2.2 i hi).trans (h.2.2 i hi)⟩
theorem frP_p {n : Nat} {S A : XS} (h : frP n S A) (k : Nat) (v : Int32) : frP n S (xpW A n k v) := ⟨h.1, h.2.1, fun i hi => (xp_xpWo A k v hi).trans (h.2.2 i hi)⟩
theorem frP_q {n : Nat} {S A : XS} (h : frP n S A) (a j : Nat) (v : Int32) : frP n S (xqW A n a j v) := ⟨h.1, h.2.1, fun i hi => (xp_xqWo A a j v hi).trans (h.2.2 i hi)⟩
theorem code_fr {S S' : XS} (h3 : xi S' 3 = xi S 3) (h4 : xa S' 4 = xa S 4) (x : Int32) : fX4_codeAt x S' = fX4_codeAt x S := by
  unfold fX4_codeAt; rw [h3, h4]
def kc (a : Int32) : Int32 := if a = 0 then 113 else if a = 1 then 118 else if a = 2 then 111 else if a = 3 then 104 else if a = 4 then 115 else if a = 5 then 65 else -1
def meR (r : Nat × (Nat → Int32) × (Nat → Int32)) : Int32 := orN (fun m => bitw (r.2.2 m)) r.1
def stR (r : Nat × (Nat → Int32) × (Nat → Int32)) : Int32 := orN (fun m => if r.2.1 m = 0 then bitw (r.2.2 m) else 0) r.1
/-- the fields of a paragraph that are as forgetAll leaves them, but for on, here -/
def freshX (n : Nat) (on hr : Int32) (S : XS) : Prop := xp S n 3 = on ∧ xp S n 4 = hr ∧ xp S n 5 = -9 ∧ xp S n 9 = 0 ∧ xp S n 10 = 255 ∧ xp S n 11 = 0 ∧ xp S n 12 = 0 ∧ xp S n 13 = 255
def rowX2 (n : Nat) (r : Nat × (Nat → Int32) × (Nat → Int32)) (S : XS) : Prop := xp S n 2 = nI r.1 ∧ xp S n 6 = nI (quR r) ∧ xp S n 7 = meR r ∧ xp S n 8 = stR r ∧ (∀ m, m < r.1 → xq S n 0 m = kc (r.2.1 m)) ∧ ∀ m, m < r.1 → r.2.1 m = 5 → xq S n 1 m = r.2.2 m
theorem bitw_nI {p : Nat} (hp : p < 8) : fX5_bitOf (nI p) = bitw (nI p) := by rw [x_bitOf hp, bitw_sh (nI_ne9 hp)]
theorem orN_s (f : Nat → Int32) (j : Nat) : orN f (j + 1) = orN f j ||| f j := rfl
/-- a name behind a sign for 'to' -/
theorem r_at {r : Nat × (Nat → Int32) × (Nat → Int32)} {c : Nat} (hc : r.1 = c + 1) (hk : r.2.1 c = 0) (hm : r.2.2 c = -9) (w : Int32) : meR (r.1, r.2.1, upd r.2.2 (r.1 - 1) w) = meR r ||| bitw w ∧ stR (r.1, r.2.1, upd r.2.2 (r.1 - 1) w) = stR r ||| bitw w ∧ quR (r.1, r.2.1, upd r.2.2 (r.1 - 1) w) = quR r := by
  have h9 : bitw (-9) = 0 := by decide
  have e : r.1 - 1 = c := by omega
  refine ⟨?_, ?_, rfl⟩
  · show orN (fun m => bitw (upd r.2.2 (r.1 - 1) w m)) r.1 = orN (fun m => bitw (r.2.2 m)) r.1 ||| bitw w
    rw [e, hc, orN_s, orN_s, upd_s, hm, h9, or_0, orN_cong (g := fun m => bitw (r.2.2 m)) c (fun m hm' => by rw [upd_n _ _ (by omega)])]
  · show orN (fun m => if r.2.1 m = 0 then bitw (upd r.2.2 (r.1 - 1) w m) else 0) r.1 = orN (fun m => if r.2.1 m = 0 then bitw (r.2.2 m) else 0) r.1 ||| bitw w
    rw [e, hc, orN_s, orN_s, upd_s, hm, h9, if_pos hk, if_pos hk, or_0, orN_cong (g := fun m => if r.2.1 m = 0 then bitw (r.2.2 m) else 0) c (fun m hm' => by rw [upd_n _ _ (by omega)])]
/-- one more item -/
theorem r_it (r : Nat × (Nat → Int32) × (Nat → Int32)) (a w : Int32) (h : a = 0 → w = -9) : meR (r.1 + 1, upd r.2.1 r.1 a, upd r.2.2 r.1 w) = meR r ||| bitw w ∧ stR (r.1 + 1, upd r.2.1 r.1 a, upd r.2.2 r.1 w) = stR r ∧ quR (r.1 + 1, upd r.2.1 r.1 a, upd r.2.2 r.1 w) = if a = 0 then quR r + 1 else quR r := by
  have h9 : bitw (-9) = 0 := by decide
  refine ⟨?_, ?_, ?_⟩
  · show orN (fun m => bitw (upd r.2.2 r.1 w m)) (r.1 + 1) = orN (fun m => bitw (r.2.2 m)) r.1 ||| bitw w
    rw [orN_s, upd_s, orN_cong (g := fun m => bitw (r.2.2 m)) r.1 (fun m hm' => by rw [upd_n _ _ (by omega)])]
  · show orN (fun m => if upd r.2.1 r.1 a m = 0 then bitw (upd r.2.2 r.1 w m) else 0) (r.1 + 1) = orN (fun m => if r.2.1 m = 0 then bitw (r.2.2 m) else 0) r.1
    rw [orN_s, upd_s, upd_s, orN_cong (g := fun m => if r.2.1 m = 0 then bitw (r.2.2 m) else 0) r.1 (fun m hm' => by rw [upd_n _ _ (by omega), upd_n _ _ (by omega)])]
    by_cases z : a = 0
    · rw [if_pos z, h z, h9, or_0]
    · rw [if_neg z, or_0]
  · show cntN (fun m => decide (upd r.2.1 r.1 a m = 0)) (r.1 + 1) = _
    have e : cntN (fun m => decide (upd r.2.1 r.1 a m = 0)) r.1 = quR r := cntN_cong _ (fun m hm => by rw [upd_n _ _ (by omega)])
    by_cases z : a = 0
    · rw [cntN_t (decide_eq_true (by rw [upd_s]; exact z)), if_pos z, e]
    · rw [cntN_f (decide_eq_false (by rw [upd_s]; exact z)), if_neg z, e]
theorem x_addItem {A : XS} {n c : Nat} (hn : n < 17) (hc : c < 12) (h2 : xp A n 2 = nI c) (x : Int32) : fX1_addItem n x A = some (
    if x = 113 then xpW (xpW (xpW (xqW (xqW A n 0 c (if 0 ≤ x - 65 ∧ x - 65 < 8 then 65 else x)) n 1 c (if 0 ≤ x - 65 ∧ x - 65 < 8 then x - 65 else -1)) n 7 (xp A n 7 ||| fX5_bitOf (x - 65))) n 2 (nI (c + 1))) n 6 (xp A n 6 + 1)
    else xpW (xpW (xqW (xqW A n 0 c (if 0 ≤ x - 65 ∧ x - 65 < 8 then 65 else x)) n 1 c (if 0 ≤ x - 65 ∧ x - 65 < 8 then x - 65 else -1)) n 7 (xp A n 7 ||| fX5_bitOf (x - 65))) n 2 (nI (c + 1))) := by
  have e79 : ∀ (a s2 : Int32), bX1_addItem_79 n x (x - 65) (nI c) s2 (xqW A n 0 c a) = some (
      if x = 113 then xpW (xpW (xpW (xqW (xqW A n 0 c a) n 1 c s2) n 7 (xp A n 7 ||| fX5_bitOf (x - 65))) n 2 (nI (c + 1))) n 6 (xp A n 6 + 1)
      else xpW (xpW (xqW (xqW A n 0 c a) n 1 c s2) n 7 (xp A n 7 ||| fX5_bitOf (x - 65))) n 2 (nI (c + 1))) := by
    intro a s2
    unfold bX1_addItem_79
    rw [ck_in (inb_nI hc (by decide)), cl_nI (by omega), bnd_s, bnd_s, bnd_s, bnd_s]
    have p7 : xp (xqW (xqW A n 0 c a) n 1 c s2) n = xp A n := by rw [xp_xqW, xp_xqW]
    rw [xp_xpW' _ _ _ (by decide : (2 : Nat) ≠ 7), p7, h2, nI_1]
    by_cases z : x = 113
    · rw [if_pos z, if_pos z, xp_xpW' _ _ _ (by decide : (6 : Nat) ≠ 2), xp_xpW' _ _ _ (by decide : (6 : Nat) ≠ 7), p7]
    · rw [if_neg z, if_neg z]
  unfold fX1_addItem
  rw [if_pos hn, h2, show (12 : Int32) = nI 12 from rfl, within_nI hc (by omega), if_neg (by decide), if_neg (by decide), bnd_s, bnd_s, x_within, if_bid]
  have e61 : ∀ (b : Bool) (s2 : Int32), bX1_addItem_61 n x (x - 65) b (nI c) s2 A = (if b = true then bX1_addItem_79 n x (x - 65) (nI c) (x - 65) (xqW A n 0 c s2) else bX1_addItem_79 n x (x - 65) (nI c) (-1) (xqW A n 0 c s2)) := by
    intro b s2
    unfold bX1_addItem_61
    rw [ck_in (inb_nI hc (by decide)), cl_nI (by omega), bnd_s, if_bi, xp_xqW, h2]
  rw [e61, e61]
  by_cases z : 0 ≤ x - 65 ∧ x - 65 < 8
  · rw [if_pos z, decide_eq_true z, if_pos rfl, if_pos z, if_pos z, e79]
  · rw [if_neg z, decide_eq_false z, if_neg (by decide), if_neg z, if_neg z, e79]
theorem fresh_p {n : Nat} {on hr : Int32} {S : XS} (h : freshX n on hr S) {k : Nat} (v : Int32) (hk : k = 2 ∨ k = 6 ∨ k = 7 ∨ k = 8) : freshX n on hr (xpW S n k v) := by
  obtain ⟨h1, h2, h3, h4, h5, h6, h7, h8⟩ := h
  have : ∀ j, j ≠ 2 → j ≠ 6 → j ≠ 7 → j ≠ 8 → xp (xpW S n k v) n j = xp S n j := fun j a b c d => xp_xpW' S n v (by rcases hk with rfl | rfl | rfl | rfl <;> assumption)
  refine ⟨?_, ?_, ?_, ?_, ?_, ?_, ?_, ?_⟩
  all_goals (rw [this _ (by decide) (by decide) (by decide) (by decide)]; assumption)
theorem fresh_q {n : Nat} {on hr : Int32} {S : XS} (h : freshX n on hr S) (a j : Nat) (v : Int32) : freshX n on hr (xqW S n a j v) := by
  unfold freshX
  rw [xp_xqW]; exact h
/-- one code read -/
theorem x_readStep {S0 A : XS} {T : MS} {n : Nat} (hn : n < 17) (h0 : ∀ i, i < tT T → fX4_codeAt (nI i) S0 = some (ma T 2 i)) (h1 : ∀ i, i ≤ tT T → fX4_codeAt (nI i - 1) S0 = some (ahT T i)) (hlen : xi S0 3 = nI (tT T)) (ht : tT T ≤ 12) {i : Nat} (hi : i < tT T) (hno : ¬ (i = 0 ∧ ma T 2 0 = 43)) (hok : ∀ j, j ≤ i → okT T j = true) {on hr : Int32}
    (hfr : frP n S0 A) (hfx : freshX n on hr A) (hrow : rowX2 n (rwT T i) A) : ∃ B, (frP n S0 B ∧ freshX n on hr B ∧ rowX2 n (rwT T (i + 1)) B) ∧ ∀ k, bX1_read_41 k n (nI i) A = k (nI (i + 1), B) := by
  have hle := rwT_le T i
  obtain ⟨J1, J2⟩ := rw_J T i (fun j hj => hok j (by omega))
  have hoki := hok i (Nat.le_refl _)
  obtain ⟨r2, r6, r7, r8, rq, rw'⟩ := hrow
  have cf := fun x => code_fr (S := S0) (S' := A) (by rw [hfr.1]) (by rw [hfr.2.1]) x
  have e41 : ∀ k, bX1_read_41 k n (nI i) A = (if ahT T i = 64 then ob1 (fX1_noteSpokenTo n (ma T 2 i - 65) A) (fun S36 => k (nI (i + 1), S36)) else if ma T 2 i = 64 then k (nI (i + 1), A) else ob1 (fX1_addItem n (ma T 2 i) A) (fun S34 => k (nI (i + 1), S34))) := by
    intro k
    unfold bX1_read_41 fX4_length
    rw [hfr.1, hlen, if_neg (nI_ge hi (by omega)), cf, h0 i hi, ob1_s, cf, h1 i (by omega), ob1_s, nI_1]
  by_cases h2 : ahT T i = 64
  · obtain ⟨c, hc, hk, hm⟩ := J2 (Or.inr h2)
    obtain ⟨p, hp, ep, -⟩ := nm_in (ok_at hoki h2)
    obtain ⟨m1, m2, m3⟩ := r_at hc hk hm (ma T 2 i - 65)
    have eb : fX5_bitOf (ma T 2 i - 65) = bitw (ma T 2 i - 65) := by rw [ep]; exact bitw_nI hp
    let B := xpW (xpW A n 7 (xp A n 7 ||| fX5_bitOf (ma T 2 i - 65))) n 8 (xp A n 8 ||| fX5_bitOf (ma T 2 i - 65))
    refine ⟨B, ⟨frP_p (frP_p hfr _ _) _ _, fresh_p (fresh_p hfx _ (by decide)) _ (by decide), ?_⟩, fun k => ?_⟩
    · rw [rw_at hno h2]
      have pB : ∀ j, j ≠ 7 → j ≠ 8 → xp B n j = xp A n j := fun j a b => by
        show xp (xpW (xpW A n 7 _) n 8 _) n j = _
        rw [xp_xpW' _ _ _ b, xp_xpW' _ _ _ a]
      have qB : xq B n = xq A n := by
        show xq (xpW (xpW A n 7 _) n 8 _) n = _
        rw [xq_xpW, xq_xpW]
      refine ⟨by rw [pB 2 (by decide) (by decide)]; exact r2, by rw [pB 6 (by decide) (by decide), m3]; exact r6, ?_, ?_, ?_, ?_⟩
      · rw [m1]
        show xp (xpW (xpW A n 7 _) n 8 _) n 7 = _
        rw [xp_xpW' _ _ _ (by decide), xp_xpW, r7, eb]
      · rw [m2]
        show xp (xpW (xpW A n 7 _) n 8 _) n 8 = _
        rw [xp_xpW, r8, eb]
      · rw [qB]; exact rq
      · rw [qB]
        intro m hm5 h5
        have hm5 : m < (rwT T i).1 := hm5
        have h5 : (rwT T i).2.1 m = 5 := h5
        show _ = upd _ _ _ m
        have hmc : m ≠ (rwT T i).1 - 1 := by
          intro z
          have : m = c := by omega
          rw [this, hk] at h5
          exact absurd h5 (by decide)
        rw [upd_n _ _ hmc]
        exact rw' m hm5 h5
    · rw [e41, if_pos h2]
      unfold fX1_noteSpokenTo
      rw [if_pos hn, bnd_s, bnd_s, xp_xpW' _ _ _ (by decide : (8 : Nat) ≠ 7), ob1_s]
  · by_cases h3 : ma T 2 i = 64
    · refine ⟨A, ⟨hfr, hfx, ?_⟩, fun k => ?_⟩
      · rw [rw_64 hno h2 h3]; exact ⟨r2, r6, r7, r8, rq, rw'⟩
      · rw [e41, if_neg h2, if_pos h3]
    · have hit := x_addItem (A := A) hn (c := (rwT T i).1) (by omega) r2 (ma T 2 i)
      rw [rw_it hno h2 h3]
      have key : ∃ kk pp bb, (if 0 ≤ ma T 2 i - 65 ∧ ma T 2 i - 65 < 8 then 65 else ma T 2 i) = kk ∧ (if 0 ≤ ma T 2 i - 65 ∧ ma T 2 i - 65 < 8 then ma T 2 i - 65 else -1) = pp ∧ fX5_bitOf (ma T 2 i - 65) = bb ∧ kk = kc (fX6_sortOfItem (ma T 2 i)) ∧ bb = bitw (if fX6_sortOfItem (ma T 2 i) = 5 then ma T 2 i - 65 else -9) ∧ (fX6_sortOfItem (ma T 2 i) = 5 → pp = ma T 2 i - 65) := by
        refine ⟨_, _, _, rfl, rfl, rfl, ?_⟩
        rcases sort_cases (ma T 2 i) with ⟨a, b⟩ | ⟨a, b⟩ | ⟨a, b⟩ | ⟨a, b⟩ | ⟨a, b⟩ | ⟨_, _, _, _, _, b⟩
        · rw [b, a]; decide
        · rw [b, a]; decide
        · rw [b, a]; decide
        · rw [b, a]; decide
        · rw [b, a]; decide
        · obtain ⟨p, hp, ep, -⟩ := nm_in (ok_nm hoki hno h2 h3 b)
          have hin : 0 ≤ nI p ∧ nI p < 8 := (lt_nI (n := 8) (by omega)).mpr ⟨p, hp, rfl⟩
          rw [b, ep, if_pos hin, if_pos hin, if_pos rfl]
          exact ⟨by decide, bitw_nI hp, fun _ => rfl⟩
      obtain ⟨kk, pp, bb, e1, e2, e3, f1, f2, f3⟩ := key
      rw [e1, e2, e3] at hit
      have h0w : fX6_sortOfItem (ma T 2 i) = 0 → (if fX6_sortOfItem (ma T 2 i) = 5 then ma T 2 i - 65 else -9) = -9 := fun z => by rw [z, if_neg (by decide)]
      obtain ⟨m1, m2, m3⟩ := r_it (rwT T i) (fX6_sortOfItem (ma T 2 i)) _ h0w
      let B0 := xpW (xpW (xqW (xqW A n 0 (rwT T i).1 kk) n 1 (rwT T i).1 pp) n 7 (xp A n 7 ||| bb)) n 2 (nI ((rwT T i).1 + 1))
      have frB : frP n S0 B0 := frP_p (frP_p (frP_q (frP_q hfr _ _ _) _ _ _) _ _) _ _
      have fxB : freshX n on hr B0 := fresh_p (fresh_p (fresh_q (fresh_q hfx _ _ _) _ _ _) _ (by decide)) _ (by decide)
      have pB : ∀ j, j ≠ 7 → j ≠ 2 → xp B0 n j = xp A n j := fun j a b => by
        show xp (xpW (xpW _ n 7 _) n 2 _) n j = _
        rw [xp_xpW' _ _ _ b, xp_xpW' _ _ _ a, xp_xqW, xp_xqW]
      have pB7 : xp B0 n 7 = xp A n 7 ||| bb := by
        show xp (xpW (xpW _ n 7 _) n 2 _) n 7 = _
        rw [xp_xpW' _ _ _ (by decide), xp_xpW]
      have pB2 : xp B0 n 2 = nI ((rwT T i).1 + 1) := xp_xpW _ _ _ _
      have q0 : xq B0 n 0 = upd (xq A n 0) (rwT T i).1 kk := by
        show xq (xpW (xpW _ n 7 _) n 2 _) n 0 = _
        rw [xq_xpW, xq_xpW, xq_xqW' _ _ _ _ (by decide), xq_xqW]
      have q1 : xq B0 n 1 = upd (xq A n 1) (rwT T i).1 pp := by
        show xq (xpW (xpW _ n 7 _) n 2 _) n 1 = _
        rw [xq_xpW, xq_xpW, xq_xqW, xq_xqW' _ _ _ _ (by decide)]
      have items : ∀ B, xq B n = xq B0 n → (∀ m, m < (rwT T i).1 + 1 → xq B n 0 m = kc (upd (rwT T i).2.1 (rwT T i).1 (fX6_sortOfItem (ma T 2 i)) m)) ∧ (∀ m, m < (rwT T i).1 + 1 → upd (rwT T i).2.1 (rwT T i).1 (fX6_sortOfItem (ma T 2 i)) m = 5 → xq B n 1 m = upd (rwT T i).2.2 (rwT T i).1 (if fX6_sortOfItem (ma T 2 i) = 5 then ma T 2 i - 65 else -9) m) := by
        intro B hB
        rw [hB, q0, q1]
        constructor
        · intro m hm
          by_cases z : m = (rwT T i).1
          · rw [z, upd_s, upd_s, f1]
          · rw [upd_n _ _ z, upd_n _ _ z]; exact rq m (by omega)
        · intro m hm h5
          by_cases z : m = (rwT T i).1
          · rw [z, upd_s] at h5
            rw [z, upd_s, upd_s, if_pos h5]; exact f3 h5
          · rw [upd_n _ _ z] at h5
            rw [upd_n _ _ z, upd_n _ _ z]; exact rw' m (by omega) h5
      by_cases hq : ma T 2 i = 113
      · rw [if_pos hq] at hit
        refine ⟨xpW B0 n 6 (xp A n 6 + 1), ⟨frP_p frB _ _, fresh_p fxB _ (by decide), ?_⟩, fun k => ?_⟩
        · obtain ⟨i0, i1⟩ := items (xpW B0 n 6 (xp A n 6 + 1)) (xq_xpW _ _ _ _)
          refine ⟨?_, ?_, ?_, ?_, i0, i1⟩
          · rw [xp_xpW' _ _ _ (by decide), pB2]
          · rw [xp_xpW, m3, if_pos ((sort_0 _).mpr hq), r6, nI_1]
          · rw [xp_xpW' _ _ _ (by decide), pB7, m1, r7, f2]
          · rw [xp_xpW' _ _ _ (by decide), pB 8 (by decide) (by decide), m2]; exact r8
        · rw [e41, if_neg h2, if_neg h3, hit, ob1_s]
      · rw [if_neg hq] at hit
        refine ⟨B0, ⟨frB, fxB, ?_⟩, fun k => ?_⟩
        · obtain ⟨i0, i1⟩ := items B0 rfl
          refine ⟨pB2, ?_, ?_, ?_, i0, i1⟩
          · rw [pB 6 (by decide) (by decide), m3, if_neg (fun z => hq ((sort_0 _).mp z))]; exact r6
          · rw [pB7, m1, r7, f2]
          · rw [pB 8 (by decide) (by decide), m2]; exact r8
        · rw [e41, if_neg h2, if_neg h3, hit, ob1_s]
