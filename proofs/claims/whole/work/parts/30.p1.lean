/-! pure rows: loops, bits, numbers -/
theorem lp_run {α β : Type} (F : (α → Option β) → α → Option β) (st : Nat → α) (Z : Option β) (c : Nat) (hstep : ∀ j, j < c → ∀ k, F k (st j) = k (st (j + 1))) (hend : ∀ k, F k (st c) = Z) : ∀ (n j : Nat), j ≤ c → c < j + n → lp F n (st j) = Z := by
  intro n
  induction n with
  | zero => intro j h1 h2; omega
  | succ n ih =>
    intro j h1 h2
    rw [lp_succ]
    rcases Nat.lt_or_ge j c with h | h
    · rw [hstep j h]
      exact ih (j + 1) (by omega) (by omega)
    · have : j = c := by omega
      subst this
      exact hend _
theorem lp_go {α β : Type} (F : (α → Option β) → α → Option β) (st : Nat → α) (Z : Option β) (c : Nat) (hc : c < 1000) (hstep : ∀ j, j < c → ∀ k, F k (st j) = k (st (j + 1))) (hend : ∀ k, F k (st c) = Z) : lp F FU (st 0) = Z := lp_run F st Z c hstep hend FU 0 (Nat.zero_le _) (by unfold FU; omega)
theorem ob1_s {α β : Type} (a : α) (k : α → Option β) : ob1 (some a) k = k a := rfl
theorem ob2_s {α σ β : Type} (a : α) (b : σ) (k : α → σ → Option β) : ob2 (some (a, b)) k = k a b := rfl
theorem bnd_s {α β : Type} (a : α) (k : α → β) : bnd a k = k a := rfl
theorem bi_0 (b : Bool) : (bi b = 0) = (b = false) := by cases b <;> simp [bi]
theorem if_bi {α : Type} (b : Bool) (x y : α) : (if bi b = 0 then x else y) = if b = true then y else x := by cases b <;> rfl
theorem if_bid {α : Type} {P : Prop} [Decidable P] (x y : α) : (if bi (decide P) = 0 then x else y) = if P then y else x := by
  by_cases h : P
  · rw [if_pos h, if_neg (by simp [h, bi])]
  · rw [if_neg h, if_pos (by simp [h, bi])]
theorem ge8n {j : Nat} (h : j < 8) : ¬ (8 : Int32) ≤ nI j := nI_ge (b := 8) h (by omega)
theorem ge8 : (8 : Int32) ≤ nI 8 := by decide
theorem bi_t : bi true = 1 := rfl
theorem bi_f : bi false = 0 := rfl
theorem inb_nI {j n : Nat} (h : j < n) (hn : n < 2 ^ 31) : inb (nI j) n := nI_in h hn
theorem cl_nI {j : Nat} (h : j < 2 ^ 31) : (nI j).toNatClampNeg = j := nI_clamp h
/-- bits -/
def tb (x : Int32) (p : Nat) : Bool := x.toBitVec.getLsbD p
theorem tb_and (x y : Int32) (p : Nat) : tb (x &&& y) p = (tb x p && tb y p) := by simp [tb]
theorem tb_or (x y : Int32) (p : Nat) : tb (x ||| y) p = (tb x p || tb y p) := by simp [tb]
theorem tb_m1 : ∀ p, p < 32 → tb (-1) p = true := by decide +kernel
theorem tb_xor (x y : Int32) (p : Nat) : tb (x ^^^ y) p = (tb x p ^^ tb y p) := by simp [tb]
theorem tb_not {x : Int32} {p : Nat} (h : p < 32) : tb (x ^^^ (-1)) p = !tb x p := by rw [tb_xor, tb_m1 p h]; simp
theorem tb_big {x : Int32} {p : Nat} (h : 32 ≤ p) : tb x p = false := by simp [tb, BitVec.getLsbD_of_ge _ _ h]
theorem tb_ext {x y : Int32} (h : ∀ p, p < 32 → tb x p = tb y p) : x = y := by
  apply Int32.toBitVec_inj.mp
  apply BitVec.eq_of_getLsbD_eq
  intro i hi
  exact h i hi
theorem tb_0 (p : Nat) : tb 0 p = false := by simp [tb]
theorem tb_sh0 : ∀ k, k < 32 → ∀ p, p < 32 → tb ((1 : Int32) <<< (nI k &&& 31)) p = decide (p = k) := by decide +kernel
theorem tb_sh {k p : Nat} (hk : k < 32) : tb ((1 : Int32) <<< (nI k &&& 31)) p = decide (p = k) := by
  rcases Nat.lt_or_ge p 32 with h | h
  · exact tb_sh0 k hk p h
  · rw [tb_big h]; simp; omega
theorem tb_255a : ∀ p, p < 32 → tb 255 p = decide (p < 8) := by decide +kernel
theorem tb_255 (p : Nat) : tb 255 p = decide (p < 8) := by
  rcases Nat.lt_or_ge p 32 with h | h
  · exact tb_255a p h
  · rw [tb_big h]; simp; omega
/-- a set of people: no bit above the eighth -/
def S8 (x : Int32) : Prop := ∀ p, 8 ≤ p → tb x p = false
theorem S8.and {x : Int32} (y : Int32) (h : S8 x) : S8 (x &&& y) := fun p hp => by rw [tb_and, h p hp]; rfl
theorem S8.or {x y : Int32} (h : S8 x) (h2 : S8 y) : S8 (x ||| y) := fun p hp => by rw [tb_or, h p hp, h2 p hp]; rfl
theorem S8_0 : S8 0 := fun p _ => tb_0 p
theorem S8_255 : S8 255 := fun p hp => by rw [tb_255]; simp; omega
theorem S8.ext {x y : Int32} (hx : S8 x) (hy : S8 y) (h : ∀ p, p < 8 → tb x p = tb y p) : x = y := by
  apply tb_ext
  intro p hp
  rcases Nat.lt_or_ge p 8 with h1 | h1
  · exact h p h1
  · rw [hx p h1, hy p h1]
theorem S8.nat {x : Int32} (h : S8 x) : ∃ v, v < 256 ∧ x = nI v := by
  refine ⟨x.toBitVec.toNat, ?_, ?_⟩
  · have : x.toBitVec.toNat < 2 ^ 8 := Nat.lt_pow_two_of_testBit _ (fun i hi => by
      have := h i hi
      simpa [tb, BitVec.testBit_toNat] using this)
    omega
  · apply Int32.toBitVec_inj.mp
    apply BitVec.eq_of_toNat_eq
    rw [pk_tn (x.toBitVec.isLt)]
theorem S8_nI {v : Nat} (h : v < 256) : S8 (nI v) := fun p hp => by
  have h1 : (nI v).toBitVec.toNat = v := pk_tn (by omega)
  show (nI v).toBitVec.getLsbD p = false
  rw [← BitVec.testBit_toNat, h1]
  exact Nat.testBit_lt_two_pow (Nat.lt_of_lt_of_le h (show 2 ^ 8 ≤ 2 ^ p from Nat.pow_le_pow_right (by decide) hp))
theorem tb_eq0 {x : Int32} (h : S8 x) : x = 0 ↔ ∀ p, p < 8 → tb x p = false := by
  constructor
  · intro e p _; rw [e]; exact tb_0 p
  · intro e; exact S8.ext h S8_0 (fun p hp => by rw [e p hp, tb_0])
theorem tb_shr {x : Int32} {p : Nat} (hp : p < 32) : tb (x >>> (nI p &&& 31)) 0 = tb x p := by
  have h1 : ∀ p, p < 32 → ((nI p &&& 31).toBitVec.smod 32) = BitVec.ofNat 32 p := by decide +kernel
  have h2 : (x >>> (nI p &&& 31)).toBitVec = x.toBitVec.sshiftRight p := by
    rw [Int32.toBitVec_shiftRight, h1 p hp]
    rw [BitVec.sshiftRight_eq']
    congr 1
    simp
    omega
  show (x >>> (nI p &&& 31)).toBitVec.getLsbD 0 = x.toBitVec.getLsbD p
  rw [h2, BitVec.getLsbD_sshiftRight]
  simp [hp]
theorem and1_iff (y : Int32) : ((y &&& 1) = 1) ↔ tb y 0 = true := by
  have h1 : tb 1 0 = true := by decide
  constructor
  · intro h
    have := congrArg (fun z => tb z 0) h
    simp only [tb_and, h1, Bool.and_true] at this
    exact this
  · intro h
    apply tb_ext
    intro p hp
    rw [tb_and]
    rcases Nat.eq_zero_or_pos p with rfl | hp0
    · rw [h, h1]; rfl
    · have : ∀ p, p < 32 → 0 < p → tb 1 p = false := by decide +kernel
      rw [this p hp hp0]; simp
theorem and1_01 (y : Int32) : (y &&& 1) = bi (tb y 0) := by
  have h1 : tb 1 0 = true := by decide
  apply tb_ext
  intro p hp
  rw [tb_and]
  rcases Nat.eq_zero_or_pos p with rfl | hp0
  · rw [h1]; cases tb y 0 <;> decide
  · have h2 : ∀ p, p < 32 → 0 < p → tb 1 p = false := by decide +kernel
    rw [h2 p hp hp0]
    cases tb y 0
    · rw [show bi false = 0 from rfl, tb_0]; simp
    · rw [show bi true = 1 from rfl, h2 p hp hp0]; simp
theorem has_nI (x : Int32) {p : Nat} (hp : p < 32) : fX6_has x (nI p) = tb x p := by
  unfold fX6_has
  have := and1_iff (x >>> (nI p &&& 31))
  rw [tb_shr hp] at this
  cases h : tb x p
  · rw [if_neg]; intro e; rw [this.mp e] at h; cases h
  · rw [if_pos (this.mpr h)]
theorem within_eq (a b c : Int32) : fX6_within a b c = decide (b ≤ a ∧ a ≤ c) := by
  unfold fX6_within
  have l1 := Int32.lt_iff_toInt_lt (x := a) (y := b)
  have l2 := Int32.lt_iff_toInt_lt (x := c) (y := a)
  have l3 := Int32.le_iff_toInt_le (x := b) (y := a)
  have l4 := Int32.le_iff_toInt_le (x := a) (y := c)
  by_cases h1 : a < b
  · rw [if_pos h1]
    symm; rw [decide_eq_false_iff_not]
    intro h; have := l1.mp h1; have := l3.mp h.1; omega
  · rw [if_neg h1]
    by_cases h2 : c < a
    · rw [if_pos h2]
      symm; rw [decide_eq_false_iff_not]
      intro h; have := l2.mp h2; have := l4.mp h.2; omega
    · rw [if_neg h2]
      symm; rw [decide_eq_true_iff]
      constructor
      · apply l3.mpr
        have : ¬ a.toInt < b.toInt := fun h => h1 (l1.mpr h)
        omega
      · apply l4.mpr
        have : ¬ c.toInt < a.toInt := fun h => h2 (l2.mpr h)
        omega
