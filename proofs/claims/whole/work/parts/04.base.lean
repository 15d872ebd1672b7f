/-! the words of the pure side: truth values, binds, loops with fuel -/
def bi (b : Bool) : Int32 := if b then 1 else 0
theorem bi_nar (b : Bool) : narrow .boolean (.int (bi b)) = .int (bi b) := by cases b <;> rfl
theorem bi_fit (b : Bool) : fits .boolean (.int (bi b)) = true := by cases b <;> rfl
theorem bi_vp (b : Bool) : vp_nar .boolean (bi b) = bi b := by cases b <;> rfl
def FU : Nat := 1000
abbrev inb (i : Int32) (n : Nat) : Prop := ¬ (i < 0 ∨ n ≤ i.toNatClampNeg)
def bnd {α β : Type} (a : α) (k : α → β) : β := k a
theorem bnd_of {α β : Type} {a x : α} {k : α → β} {z : β} (e : x = a) (h : bnd a k = z) : k x = z := by
  subst e
  exact h
def ob1 {α β : Type} (x : Option α) (k : α → Option β) : Option β := match x with
  | none => none
  | some a => k a
theorem ob1_some {α β : Type} {x : Option α} {k : α → Option β} {z : β} (h : ob1 x k = some z) : ∃ a, x = some a ∧ k a = some z := by
  cases x with
  | none => cases h
  | some a => exact ⟨a, rfl, h⟩
def ob2 {α σ β : Type} (x : Option (α × σ)) (k : α → σ → Option β) : Option β := match x with
  | none => none
  | some (a, b) => k a b
theorem ob2_some {α σ β : Type} {x : Option (α × σ)} {k : α → σ → Option β} {z : β} (h : ob2 x k = some z) : ∃ a b, x = some (a, b) ∧ k a b = some z := by
  cases x with
  | none => cases h
  | some q => exact ⟨q.1, q.2, rfl, h⟩
def lp {α β : Type} (F : (α → Option β) → α → Option β) : Nat → α → Option β
  | 0, _ => none
  | n + 1, a => F (lp F n) a
theorem lp_succ {α β : Type} (F : (α → Option β) → α → Option β) (n : Nat) (a : α) : lp F (n + 1) a = F (lp F n) a := rfl
theorem lp_zero {α β : Type} (F : (α → Option β) → α → Option β) (a : α) (z : β) (h : lp F 0 a = some z) : False := by cases h
theorem ck_no {c : Prop} [Decidable c] {β : Type} {x : Option β} {z : β} (h : (if c then x else none) = some z) : c ∧ x = some z := by
  by_cases hc : c
  · exact ⟨hc, by rw [if_pos hc] at h; exact h⟩
  · rw [if_neg hc] at h; cases h
def ck {β : Type} (x : Int32) (n : Nat) (a : Option β) : Option β := if inb x n then a else none
theorem ck_some {β : Type} {x : Int32} {n : Nat} {a : Option β} {z : β} (h : ck x n a = some z) : inb x n ∧ a = some z := ck_no h
theorem ck_in {β : Type} {x : Int32} {n : Nat} (h : inb x n) (a : Option β) : ck x n a = a := if_pos h
theorem and1 {v : Int32} (h : v &&& 1 = v) : v = 0 ∨ v = 1 := by
  have h1 := congrArg (fun x : Int32 => x.toBitVec.toNat) h
  simp only [Int32.toBitVec_and, BitVec.toNat_and] at h1
  have h3 : (1 : Int32).toBitVec.toNat = 1 := rfl
  rw [h3, Nat.and_one_is_mod] at h1
  rcases Nat.mod_two_eq_zero_or_one v.toBitVec.toNat with h2 | h2
  · left
    apply Int32.toBitVec_inj.mp
    apply BitVec.eq_of_toNat_eq
    rw [← h1, h2]
    rfl
  · right
    apply Int32.toBitVec_inj.mp
    apply BitVec.eq_of_toNat_eq
    rw [← h1, h2]
    rfl
theorem bool_back {v : Int32} {r : Bool} (h : v &&& 1 = v) (e : decide (v = 1) = r) : v = bi r := by
  subst e
  rcases and1 h with h | h <;> subst h <;> rfl
theorem ne_toInt {x k : Int32} (h : ¬ x = k) : x.toInt ≠ k.toInt := fun e => h (Int32.toInt_inj.mp e)
/-! contracts over a world: what every method of the system is said to do -/
abbrev tysK (cy : Nat → ClassId) : List (ClassId × FieldType) := [(cy 0, .int), (cy 1, .long), (cy 2, .boolean), (cy 3, .object "WhoSpeaks$Paragraph")]
def KX (D : va_G) (cy : Nat → ClassId) (U : State) : Prop := va_K D vwCl (tysK cy) U ∧ va_Nw (.methodLinkNest RX2 23 yX5_isWithin RX5) U ∧ va_Nw (.methodLinkNest RX2 19 yX5_bitOf RX5) U ∧ va_Nw (.methodLinkNest RX1 86 yX5_bitOf RX5) U ∧ va_Nw (.methodLinkNest RX0 42 yX5_isWithin RX5) U ∧ va_Nw (.methodLinkNest RX0 54 yX5_bitOf RX5) U ∧ va_Nw (.methodLinkNest RX4 19 yX5_isWithin RX5) U ∧ va_Nw (.methodLinkNest RX1 82 yX5_isWithin RX5) U
theorem KX.warm {D : va_G} {cy : Nat → ClassId} {s U : State} (hW : s.WarmedH U.vm) (h : KX D cy s) : KX D cy U := ⟨va_K.moved hW.alike h.1, va_Nw.warmM hW h.2.1, va_Nw.warmM hW h.2.2.1, va_Nw.warmM hW h.2.2.2.1, va_Nw.warmM hW h.2.2.2.2.1, va_Nw.warmM hW h.2.2.2.2.2.1, va_Nw.warmM hW h.2.2.2.2.2.2.1, va_Nw.warmM hW h.2.2.2.2.2.2.2⟩
theorem KX.call {D : va_G} {cy : Nat → ClassId} {U : State} {g : JFrame} {mk : MethodId} {a : Array Value} (h : KX D cy U) : KX D cy (U.calling g mk a) := ⟨va_K.moved (u := U) (U := U.calling g mk a) (Vm.Alike.refl U.vm) h.1, va_Nw.same rfl rfl h.2.1, va_Nw.same rfl rfl h.2.2.1, va_Nw.same rfl rfl h.2.2.2.1, va_Nw.same rfl rfl h.2.2.2.2.1, va_Nw.same rfl rfl h.2.2.2.2.2.1, va_Nw.same rfl rfl h.2.2.2.2.2.2.1, va_Nw.same rfl rfl h.2.2.2.2.2.2.2⟩
def PcX (D : va_G) (cy : Nat → ClassId) (w : va_W) (av : List Value) : Array Value → State → Prop := va_Pc av (fun U => va_P D vwCl w U.heap ∧ KX D cy U)
theorem PcX.blind {D : va_G} {cy : Nat → ClassId} {w : va_W} {av : List Value} : FrameBlind (PcX D cy w av) := fun _ _ _ _ q => ⟨q.1, q.2.1, q.2.2.call⟩
theorem PcX.here {D : va_G} {cy : Nat → ClassId} {w : va_W} {av : List Value} {H : Heap} {s : State} (hP : va_P D vwCl w H) (hK : KX D cy s) : ∀ U : State, U.heap = H → s.WarmedH U.vm → PcX D cy w av av.toArray U := fun U hU hW => ⟨rfl, by rw [hU]; exact hP, hK.warm hW⟩
def QcI (D : va_G) (A : Nat → Prop) (r : Int32) (w' : va_W) : Array Value → State → Outcome → State → Prop := va_Qi (fun (r' : Int32) (_ : Unit) => r' = r) (fun _ t => va_P D vwCl w' t.heap) A
def QcL (D : va_G) (A : Nat → Prop) (r : Int64) (w' : va_W) : Array Value → State → Outcome → State → Prop := va_Ql (fun (r' : Int64) (_ : Unit) => r' = r) (fun _ t => va_P D vwCl w' t.heap) A
def QcV (D : va_G) (A : Nat → Prop) (w' : va_W) : Array Value → State → Outcome → State → Prop := va_Qv (fun (_ : Unit) => True) (fun _ t => va_P D vwCl w' t.heap) A
def QcR (D : va_G) (A : Nat → Prop) (r : Nat) (w' : va_W) : Array Value → State → Outcome → State → Prop := va_Qr (fun (_ : Unit) => True) (fun _ a t => a = r ∧ va_P D vwCl w' t.heap) A
abbrev MI (l : Launch) (y : MethodName) (ws : List Cond) (rm : Room) (D : va_G) (cy : Nat → ClassId) (A : Nat → Prop) (w : va_W) (av : List Value) (r : Int32) (w' : va_W) : Prop := Met l y ws rm (PcX D cy w av) (QcI D A r w') 0 0 A
abbrev ML (l : Launch) (y : MethodName) (ws : List Cond) (rm : Room) (D : va_G) (cy : Nat → ClassId) (A : Nat → Prop) (w : va_W) (av : List Value) (r : Int64) (w' : va_W) : Prop := Met l y ws rm (PcX D cy w av) (QcL D A r w') 0 0 A
abbrev MV (l : Launch) (y : MethodName) (ws : List Cond) (rm : Room) (D : va_G) (cy : Nat → ClassId) (A : Nat → Prop) (w : va_W) (av : List Value) (w' : va_W) : Prop := Met l y ws rm (PcX D cy w av) (QcV D A w') 0 0 A
abbrev MR (l : Launch) (y : MethodName) (ws : List Cond) (rm : Room) (D : va_G) (cy : Nat → ClassId) (A : Nat → Prop) (w : va_W) (av : List Value) (r : Nat) (w' : va_W) : Prop := Met l y ws rm (PcX D cy w av) (QcR D A r w') 0 0 A
theorem ent {m : MethodId} {args : Array Value} {vs : List Value} {n : Nat} (ha : args = vs.toArray) (h : (lg_sl vs).length ≤ n) : ∃ ls : Array Slot, lv_has ls n (lv_args 0 vs) ∧ entryFrame m args n = F0 m 0 ls [] := ⟨_, lv_entry vs h, by rw [ha]; exact lg_entry_eq m vs n⟩
section KCALL
variable {p : Program} {l : Launch} {e : Env} {R : Room} {s : State} {m : MethodId} {args : Array Value} {below : List Frame} {meth : Method} {c : Code} {H : Heap} {locs : List Loc} {Q : State → Prop}
variable {cc bytes : ByteArray} {pc nL maxL n index b q0 ci : Nat} {ls : Array Slot} {As rest st : List Value} {D : va_G} {cy : Nat → ClassId} {A : Nat → Prop} {w w' : va_W} {H0 : Heap} {Ts ws : List Cond} {own C host : String} {y : MethodName} {ret : Option FieldType} {rm : Room}
theorem kVi {r : Int32} (S : CallFix p m c cc nL s args Ts own) (hM : MI l y ws rm D cy A w (.ref b :: As) r w') (cw : CallW R s args own C index y bytes maxL ret ws rm 0 0 n) (hK : KX D cy s) (hP : va_P D vwCl w H) (hS : va_S A H0 H locs) (hrec : ∃ cell : Cell, H[b]? = some cell ∧ cell.vm.isStatics = false ∧ s.vm.findClass C = some cell.cls) (hn : As.length = n) (hsize : ls.size = nL) (hst : st = As.reverse ++ .ref b :: rest) (hW : (rest.map fun v => v.category).sum ≤ 8) (hdg : decode cc pc = .ok (.invokevirtual index, 3)) (kk : ∀ (H1 : Heap) (locs1 : List Loc), va_P D vwCl w' H1 → va_S A H0 H1 locs1 → W p l e R s m args below meth c H1 locs1 0 0 Q (F0 m (pc + 3) ls (.int r :: rest))) : W p l e R s m args below meth c H locs 0 0 Q (F0 m pc ls st) :=
  va_calli (va_runV S hM cw ⟨PcX.blind, hrec, PcX.here hP hK⟩ rfl hn hsize hst (lv_room hW) hdg ⟨Nat.zero_le _, Nat.zero_le _⟩) hS (fun _ _ h => h) (fun _ h => h) (fun r' u t H1 locs1 ht hvm hw hB hz1 hk1 hS1 => by
    obtain rfl := hw
    exact kk H1 locs1 (by rw [← ht]; exact hB) hS1)
theorem kVl {r : Int64} (S : CallFix p m c cc nL s args Ts own) (hM : ML l y ws rm D cy A w (.ref b :: As) r w') (cw : CallW R s args own C index y bytes maxL ret ws rm 0 0 n) (hK : KX D cy s) (hP : va_P D vwCl w H) (hS : va_S A H0 H locs) (hrec : ∃ cell : Cell, H[b]? = some cell ∧ cell.vm.isStatics = false ∧ s.vm.findClass C = some cell.cls) (hn : As.length = n) (hsize : ls.size = nL) (hst : st = As.reverse ++ .ref b :: rest) (hW : (rest.map fun v => v.category).sum ≤ 8) (hdg : decode cc pc = .ok (.invokevirtual index, 3)) (kk : ∀ (H1 : Heap) (locs1 : List Loc), va_P D vwCl w' H1 → va_S A H0 H1 locs1 → W p l e R s m args below meth c H1 locs1 0 0 Q (F0 m (pc + 3) ls (.long r :: rest))) : W p l e R s m args below meth c H locs 0 0 Q (F0 m pc ls st) :=
  va_calll (va_runV S hM cw ⟨PcX.blind, hrec, PcX.here hP hK⟩ rfl hn hsize hst (lv_room hW) hdg ⟨Nat.zero_le _, Nat.zero_le _⟩) hS (fun _ _ h => h) (fun _ h => h) (fun r' u t H1 locs1 ht hvm hw hB hz1 hk1 hS1 => by
    obtain rfl := hw
    exact kk H1 locs1 (by rw [← ht]; exact hB) hS1)
theorem kVv (S : CallFix p m c cc nL s args Ts own) (hM : MV l y ws rm D cy A w (.ref b :: As) w') (cw : CallW R s args own C index y bytes maxL ret ws rm 0 0 n) (hK : KX D cy s) (hP : va_P D vwCl w H) (hS : va_S A H0 H locs) (hrec : ∃ cell : Cell, H[b]? = some cell ∧ cell.vm.isStatics = false ∧ s.vm.findClass C = some cell.cls) (hn : As.length = n) (hsize : ls.size = nL) (hst : st = As.reverse ++ .ref b :: rest) (hW : (rest.map fun v => v.category).sum ≤ 8) (hdg : decode cc pc = .ok (.invokevirtual index, 3)) (kk : ∀ (H1 : Heap) (locs1 : List Loc), va_P D vwCl w' H1 → va_S A H0 H1 locs1 → W p l e R s m args below meth c H1 locs1 0 0 Q (F0 m (pc + 3) ls rest)) : W p l e R s m args below meth c H locs 0 0 Q (F0 m pc ls st) :=
  va_callv (va_runV S hM cw ⟨PcX.blind, hrec, PcX.here hP hK⟩ rfl hn hsize hst (lv_room hW) hdg ⟨Nat.zero_le _, Nat.zero_le _⟩) hS (fun _ _ h => h) (fun _ h => h) (fun u t H1 locs1 ht hvm hw hB hz1 hk1 hS1 => kk H1 locs1 (by rw [← ht]; exact hB) hS1)
theorem kVr {r : Nat} (S : CallFix p m c cc nL s args Ts own) (hM : MR l y ws rm D cy A w (.ref b :: As) r w') (cw : CallW R s args own C index y bytes maxL ret ws rm 0 0 n) (hK : KX D cy s) (hP : va_P D vwCl w H) (hS : va_S A H0 H locs) (hrec : ∃ cell : Cell, H[b]? = some cell ∧ cell.vm.isStatics = false ∧ s.vm.findClass C = some cell.cls) (hn : As.length = n) (hsize : ls.size = nL) (hst : st = As.reverse ++ .ref b :: rest) (hW : (rest.map fun v => v.category).sum ≤ 8) (hdg : decode cc pc = .ok (.invokevirtual index, 3)) (kk : ∀ (H1 : Heap) (locs1 : List Loc), va_P D vwCl w' H1 → va_S A H0 H1 locs1 → W p l e R s m args below meth c H1 locs1 0 0 Q (F0 m (pc + 3) ls (.ref r :: rest))) : W p l e R s m args below meth c H locs 0 0 Q (F0 m pc ls st) :=
  va_callr (va_runV S hM cw ⟨PcX.blind, hrec, PcX.here hP hK⟩ rfl hn hsize hst (lv_room hW) hdg ⟨Nat.zero_le _, Nat.zero_le _⟩) hS (fun _ _ h => h) (fun _ h => h) (fun u ra t H1 locs1 ht hvm hw hB hz1 hk1 hS1 => by
    obtain ⟨rfl, hB⟩ := hB
    exact kk H1 locs1 (by rw [← ht]; exact hB) hS1)
theorem kSi {r : Int32} (S : CallFix p m c cc nL s args Ts own) (hM : MI l y ws rm D cy A w As r w') (cw : CallB R s args own index y bytes maxL ret ws rm 0 0 n ∧ (Cond.static y).before args s = true) (hK : KX D cy s) (hP : va_P D vwCl w H) (hS : va_S A H0 H locs) (hn : As.length = n) (hsize : ls.size = nL) (hst : st = As.reverse ++ rest) (hW : (rest.map fun v => v.category).sum ≤ 8) (hdg : decode cc pc = .ok (.invokestatic index, 3)) (kk : ∀ (H1 : Heap) (locs1 : List Loc), va_P D vwCl w' H1 → va_S A H0 H1 locs1 → W p l e R s m args below meth c H1 locs1 0 0 Q (F0 m (pc + 3) ls (.int r :: rest))) : W p l e R s m args below meth c H locs 0 0 Q (F0 m pc ls st) :=
  va_calli (va_runS S hM cw ⟨PcX.blind, PcX.here hP hK⟩ rfl hn hsize hst (lv_room hW) hdg ⟨Nat.zero_le _, Nat.zero_le _⟩) hS (fun _ _ h => h) (fun _ h => h) (fun r' u t H1 locs1 ht hvm hw hB hz1 hk1 hS1 => by
    obtain rfl := hw
    exact kk H1 locs1 (by rw [← ht]; exact hB) hS1)
theorem kSl {r : Int64} (S : CallFix p m c cc nL s args Ts own) (hM : ML l y ws rm D cy A w As r w') (cw : CallB R s args own index y bytes maxL ret ws rm 0 0 n ∧ (Cond.static y).before args s = true) (hK : KX D cy s) (hP : va_P D vwCl w H) (hS : va_S A H0 H locs) (hn : As.length = n) (hsize : ls.size = nL) (hst : st = As.reverse ++ rest) (hW : (rest.map fun v => v.category).sum ≤ 8) (hdg : decode cc pc = .ok (.invokestatic index, 3)) (kk : ∀ (H1 : Heap) (locs1 : List Loc), va_P D vwCl w' H1 → va_S A H0 H1 locs1 → W p l e R s m args below meth c H1 locs1 0 0 Q (F0 m (pc + 3) ls (.long r :: rest))) : W p l e R s m args below meth c H locs 0 0 Q (F0 m pc ls st) :=
  va_calll (va_runS S hM cw ⟨PcX.blind, PcX.here hP hK⟩ rfl hn hsize hst (lv_room hW) hdg ⟨Nat.zero_le _, Nat.zero_le _⟩) hS (fun _ _ h => h) (fun _ h => h) (fun r' u t H1 locs1 ht hvm hw hB hz1 hk1 hS1 => by
    obtain rfl := hw
    exact kk H1 locs1 (by rw [← ht]; exact hB) hS1)
theorem kNi {r : Int32} (S : CallFix p m c cc nL s args Ts own) (hM : MI l y ws rm D cy A w As r w') (cw : va_CN R s args own index y host bytes maxL ret ws rm 0 0 n ∧ (Cond.static y).before args s = true ∧ True) (hK : KX D cy s) (hP : va_P D vwCl w H) (hS : va_S A H0 H locs) (hn : As.length = n) (hsize : ls.size = nL) (hst : st = As.reverse ++ rest) (hW : (rest.map fun v => v.category).sum ≤ 8) (hdg : decode cc pc = .ok (.invokestatic index, 3)) (kk : ∀ (H1 : Heap) (locs1 : List Loc), va_P D vwCl w' H1 → va_S A H0 H1 locs1 → W p l e R s m args below meth c H1 locs1 0 0 Q (F0 m (pc + 3) ls (.int r :: rest))) : W p l e R s m args below meth c H locs 0 0 Q (F0 m pc ls st) :=
  va_calli (va_runSN S hM cw ⟨PcX.blind, PcX.here hP hK⟩ rfl hn hsize hst (lv_room hW) hdg ⟨Nat.zero_le _, Nat.zero_le _⟩) hS (fun _ _ h => h) (fun _ h => h) (fun r' u t H1 locs1 ht hvm hw hB hz1 hk1 hS1 => by
    obtain rfl := hw
    exact kk H1 locs1 (by rw [← ht]; exact hB) hS1)
theorem rI {v r : Int32} (hx : p.tables.exec = Jvm.exec) (hb : c.code = cc) (hr : meth.sig.returnType = some .int) (hP : va_P D vwCl w' H) (hS : va_S A s.heap H locs) (hv : v = r) (hlocks : meth.locks = false) (hdg : decode cc pc = .ok (.ireturn, 1)) : W p l e R s m args below meth c H locs 0 0 (MQ below (QcI D A r w') args s 0 0 A) (F0 m pc ls [.int v]) := by
  subst hv
  exact W.iret (v := v) hx hb hr (fun t ht hW => ⟨⟨v, (), rfl, rfl, by rw [← ht] at hP; exact hP⟩, hS.F ht⟩) hS.2.2 hdg hlocks
theorem rZ {v r : Int32} (hx : p.tables.exec = Jvm.exec) (hb : c.code = cc) (hr : meth.sig.returnType = some .boolean) (hnr : narrow .boolean (.int v) = .int v) (hP : va_P D vwCl w' H) (hS : va_S A s.heap H locs) (hv : v = r) (hlocks : meth.locks = false) (hdg : decode cc pc = .ok (.ireturn, 1)) : W p l e R s m args below meth c H locs 0 0 (MQ below (QcI D A r w') args s 0 0 A) (F0 m pc ls [.int v]) := by
  subst hv
  exact W.zret (v := v) hx hb hr hnr (fun t ht hW => ⟨⟨v, (), rfl, rfl, by rw [← ht] at hP; exact hP⟩, hS.F ht⟩) hS.2.2 hdg hlocks
theorem rL {v r : Int64} (hx : p.tables.exec = Jvm.exec) (hb : c.code = cc) (hr : meth.sig.returnType = some .long) (hP : va_P D vwCl w' H) (hS : va_S A s.heap H locs) (hv : v = r) (hlocks : meth.locks = false) (hdg : decode cc pc = .ok (.lreturn, 1)) : W p l e R s m args below meth c H locs 0 0 (MQ below (QcL D A r w') args s 0 0 A) (F0 m pc ls [.long v]) := by
  subst hv
  exact W.lret (v := v) hx hb hr (fun t ht hW => ⟨⟨v, (), rfl, rfl, by rw [← ht] at hP; exact hP⟩, hS.F ht⟩) hS.2.2 hdg hlocks
theorem rV (hx : p.tables.exec = Jvm.exec) (hb : c.code = cc) (hr : meth.sig.returnType = none) (hP : va_P D vwCl w' H) (hS : va_S A s.heap H locs) (hlocks : meth.locks = false) (hdg : decode cc pc = .ok (.return_, 1)) : W p l e R s m args below meth c H locs 0 0 (MQ below (QcV D A w') args s 0 0 A) (F0 m pc ls []) :=
  W.vret hx hb hr (fun t ht hW => ⟨⟨(), rfl, trivial, by rw [← ht] at hP; exact hP⟩, hS.F ht⟩) hS.2.2 hdg hlocks
theorem rR {v r : Nat} {nm : String} (hx : p.tables.exec = Jvm.exec) (hb : c.code = cc) (hr : meth.sig.returnType = some (.object nm)) (hP : va_P D vwCl w' H) (hS : va_S A s.heap H locs) (hv : v = r) (hlocks : meth.locks = false) (hdg : decode cc pc = .ok (.areturn, 1)) : W p l e R s m args below meth c H locs 0 0 (MQ below (QcR D A r w') args s 0 0 A) (F0 m pc ls [.ref v]) := by
  subst hv
  exact W.aret (v := .ref v) hx hb hr (Or.inl ⟨nm, rfl⟩) (Or.inr ⟨v, rfl⟩) (fun t ht hW => ⟨⟨(), v, rfl, trivial, rfl, by rw [← ht] at hP; exact hP⟩, hS.F ht⟩) hS.2.2 hdg hlocks
end KCALL
