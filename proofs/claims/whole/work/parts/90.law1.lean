/-! the law: what stands at its loop, and the rows of its calls -/
def LC (p : Program) (s : State) (m : MethodId) (c : Code) (b L : Nat) (xs : Nat → Int32) (D : va_G) (cy : Nat → ClassId) (aX aM : Nat → Nat) (AX AM : Nat → Prop) : Prop :=
  p.tables.exec = Jvm.exec ∧ c.code = cL_law ∧ c.maxLocals = 4 ∧ s.vm.findClass RL = some m.cls ∧ (∀ w ∈ wsL_law, w.before #[Value.ref b] s = true) ∧ va_X b L xs s s.heap ∧ b < s.heap.size ∧ KX D cy s ∧ (∀ S, va_D AX (wX cy aX S)) ∧ (∀ T, va_D AM (wM cy aM T)) ∧ (∀ q, AX q → s.heap.size ≤ q) ∧ (∀ q, AM q → s.heap.size ≤ q) ∧ (∀ q, AX q → ¬ AM q) ∧ L ≤ 1536
abbrev lcs (b : Nat) (aX aM : Nat → Nat) (i : Nat) : List (Nat × Value) := [(0, .ref b), (1, .ref (aX 0)), (2, .ref (aM 0)), (3, .int (nI i))]
section LAWROWS
variable {p : Program} {l : Launch} {e : Env} {R : Room} {s : State} {m : MethodId} {args : Array Value} {below : List Frame} {meth : Method} {c : Code} {H : Heap} {locs : List Loc} {Q : State → Prop} {cells slots : Nat}
variable {cc bytes : ByteArray} {pc nL maxL n index b : Nat} {ls : Array Slot} {As rest st : List Value} {D : va_G} {cy : Nat → ClassId} {AU A0 : Nat → Prop} {u u' v : va_W} {H0 : Heap} {Ts ws : List Cond} {own C : String} {y : MethodName} {ret : Option FieldType} {rm : Room}
theorem kLi {r : Int32} (Sx : CallFix p m c cc nL s args Ts own) (hM : MI l y ws rm D cy AU u (.ref b :: As) r u') (cw : CallW R s args own C index y bytes maxL ret ws rm 0 0 n) (hK : KX D cy s) (hU : va_P D vwCl u H) (hV : va_P D vwCl v H) (hsep : ∀ (k : Nat) (q : Nat × va_E), v[k]? = some q → ¬ AU q.1) (hAU : ∀ q, AU q → A0 q) (hS : va_S A0 H0 H locs) (hrec : ∃ cell : Cell, H[b]? = some cell ∧ cell.vm.isStatics = false ∧ s.vm.findClass C = some cell.cls) (hn : As.length = n) (hsize : ls.size = nL) (hst : st = As.reverse ++ .ref b :: rest) (hW : (rest.map fun v => v.category).sum ≤ 8) (hdg : decode cc pc = .ok (.invokevirtual index, 3)) (hf : cells ≤ R.cells ∧ slots ≤ R.slots) (kk : ∀ (H1 : Heap) (locs1 : List Loc), va_P D vwCl u' H1 → va_P D vwCl v H1 → va_S A0 H0 H1 locs1 → W p l e R s m args below meth c H1 locs1 cells slots Q (F0 m (pc + 3) ls (.int r :: rest))) : W p l e R s m args below meth c H locs cells slots Q (F0 m pc ls st) :=
  va_calli (va_runV Sx hM cw ⟨PcX.blind, hrec, PcX.here hU hK⟩ rfl hn hsize hst (lv_room hW) hdg hf) hS (fun q _ h => hAU q h) (fun q h => hAU q h) (fun r' z t H1 locs1 ht hvm hw hB hz1 hk1 hS1 => by
    obtain rfl := hw
    exact kk H1 locs1 (by rw [← ht]; exact hB) (hV.kept (fun k q hq => hk1 q.1 ((hV k q hq).lt) (hsep k q hq))) hS1)
theorem kLl {r : Int64} (Sx : CallFix p m c cc nL s args Ts own) (hM : ML l y ws rm D cy AU u (.ref b :: As) r u') (cw : CallW R s args own C index y bytes maxL ret ws rm 0 0 n) (hK : KX D cy s) (hU : va_P D vwCl u H) (hV : va_P D vwCl v H) (hsep : ∀ (k : Nat) (q : Nat × va_E), v[k]? = some q → ¬ AU q.1) (hAU : ∀ q, AU q → A0 q) (hS : va_S A0 H0 H locs) (hrec : ∃ cell : Cell, H[b]? = some cell ∧ cell.vm.isStatics = false ∧ s.vm.findClass C = some cell.cls) (hn : As.length = n) (hsize : ls.size = nL) (hst : st = As.reverse ++ .ref b :: rest) (hW : (rest.map fun v => v.category).sum ≤ 8) (hdg : decode cc pc = .ok (.invokevirtual index, 3)) (hf : cells ≤ R.cells ∧ slots ≤ R.slots) (kk : ∀ (H1 : Heap) (locs1 : List Loc), va_P D vwCl u' H1 → va_P D vwCl v H1 → va_S A0 H0 H1 locs1 → W p l e R s m args below meth c H1 locs1 cells slots Q (F0 m (pc + 3) ls (.long r :: rest))) : W p l e R s m args below meth c H locs cells slots Q (F0 m pc ls st) :=
  va_calll (va_runV Sx hM cw ⟨PcX.blind, hrec, PcX.here hU hK⟩ rfl hn hsize hst (lv_room hW) hdg hf) hS (fun q _ h => hAU q h) (fun q h => hAU q h) (fun r' z t H1 locs1 ht hvm hw hB hz1 hk1 hS1 => by
    obtain rfl := hw
    exact kk H1 locs1 (by rw [← ht]; exact hB) (hV.kept (fun k q hq => hk1 q.1 ((hV k q hq).lt) (hsep k q hq))) hS1)
end LAWROWS
theorem and31 (x : Int32) : ∃ n, n < 32 ∧ x &&& 31 = nI n := by
  refine ⟨(x &&& 31).toBitVec.toNat, ?_, ?_⟩
  · rw [Int32.toBitVec_and, BitVec.toNat_and]
    have h := Nat.and_le_right (n := x.toBitVec.toNat) (m := (31 : Int32).toBitVec.toNat)
    have h2 : (31 : Int32).toBitVec.toNat = 31 := rfl
    rw [h2] at h ⊢
    omega
  · apply Int32.toBitVec_inj.mp
    apply BitVec.eq_of_toNat_eq
    rw [pk_tn ((x &&& 31).toBitVec.isLt)]
/-- the two start alike -/
theorem rel_start (f : Nat → Int32) (hf : ∀ p, p < 8 → f p = -9) : Rel S0 (T0 f) := by
  have h1 : ma (T0 f) 1 = f := rfl
  have hth : thT (T0 f) = 0 := by
    refine (tb_eq0 (S8_thT _)).mpr (fun p hp => ?_)
    cases h : tb (thT (T0 f)) p
    · rfl
    · exact absurd (by rw [h1]; exact hf p hp) ((tb_thT _ _).mp h).2
  refine ⟨⟨⟨rfl, by show (0 : Int32).toNatClampNeg ≤ 16; decide⟩, ⟨rfl, by show (0 : Int32).toNatClampNeg ≤ 12; decide⟩, fun p hp => ?_, ?_, ⟨15, by omega, rfl⟩, fun k hk => ?_⟩, rfl, rfl, ?_, fun p hp h => ?_, rfl, fun j hj => ?_, rfl, fun k hk => ?_, rfl⟩
  · rw [h1]; exact Or.inl (hf p hp)
  · exact S8_0
  · exact absurd hk (Nat.not_lt_zero k)
  · rw [hth]; rfl
  · rw [h1] at h; exact absurd (hf p hp) h
  · exact absurd hj (Nat.not_lt_zero j)
  · exact absurd hk (Nat.not_lt_zero k)
/-- the worlds' addresses -/
theorem va_D_map {A : Nat → Prop} {w w' : va_W} (h : va_D A w) (e : w'.map Prod.fst = w.map Prod.fst) : va_D A w' := by
  have key : ∀ (k : Nat) (q : Nat × va_E), w'[k]? = some q → ∃ q', w[k]? = some q' ∧ q'.1 = q.1 := by
    intro k q hq
    have h1 : (w'.map Prod.fst)[k]? = some q.1 := by rw [List.getElem?_map, hq]; rfl
    rw [e, List.getElem?_map] at h1
    cases hw : w[k]? with
    | none => rw [hw] at h1; cases h1
    | some q' => rw [hw] at h1; exact ⟨q', rfl, Option.some.inj h1⟩
  refine ⟨fun i j p q hp hq epq => ?_, fun k q hk => ?_⟩
  · obtain ⟨p', hp', e1⟩ := key i p hp
    obtain ⟨q', hq', e2⟩ := key j q hq
    exact h.1 i j p' q' hp' hq' (by rw [e1, e2]; exact epq)
  · obtain ⟨q', hq', e1⟩ := key k q hk
    rw [← e1]; exact h.2 k q' hq'
theorem wX_map (cy : Nat → ClassId) (ad : Nat → Nat) (S S' : XS) : (wX cy ad S').map Prod.fst = (wX cy ad S).map Prod.fst := by
  unfold wX wXp
  rw [List.map_append, List.map_append, List.map_flatMap, List.map_flatMap]
  rfl
theorem wM_map (cy : Nat → ClassId) (ad : Nat → Nat) (S S' : MS) : (wM cy ad S').map Prod.fst = (wM cy ad S).map Prod.fst := rfl
def adr (w : va_W) : Nat → Prop := fun q => q ∈ w.map Prod.fst
theorem adr_in {w : va_W} {k : Nat} {q : Nat × va_E} (h : w[k]? = some q) : adr w q.1 := List.mem_map.mpr ⟨q, List.mem_of_getElem? h, rfl⟩
theorem adr_ex {w : va_W} {q : Nat} (h : adr w q) : ∃ (k : Nat) (e : Nat × va_E), w[k]? = some e ∧ e.1 = q := by
  obtain ⟨e, he, h2⟩ := List.mem_map.mp h
  obtain ⟨k, hk⟩ := List.getElem?_of_mem he
  exact ⟨k, e, hk, h2⟩
theorem va_D_adr {A : Nat → Prop} {w : va_W} (h : va_D A w) : va_D (adr w) w := ⟨h.1, fun _ _ hk => adr_in hk⟩
