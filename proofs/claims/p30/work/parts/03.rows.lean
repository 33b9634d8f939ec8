def nestT : List (String × Nat × MethodName × String) := [(RX6, 9, yX0_init, RX6), (RX6, 18, yX5_init, RX6), (RX6, 36, yX4_init, RX6), (RX5, 55, yX6_slotOf, RX6), (RX5, 62, yX6_widthOf, RX6), (RX0, 19, yX6_isLetter, RX6), (RX2, 60, yX6_isLetter, RX6), (RX2, 64, yX6_widthOf, RX6), (RX1, 37, yX6_slotOf, RX6), (RX1, 54, yX6_widthOf, RX6)]
def nestW (q : String × Nat × MethodName × String) : Cond := .methodLinkNest q.1 q.2.1 q.2.2.1 q.2.2.2
/-- what the tables say, of a state -/
def Kw (E : Ev) (s : State) : Prop := va_K E.1 cls [(E.2.1 0, aty 0), (E.2.1 1, aty 1), (E.2.1 2, aty 2), (E.2.1 3, aty 3)] s ∧ (∀ q ∈ nestT, va_Nw (nestW q) s) ∧ va_AO RX1 s ∧ va_AO RX5 s ∧ va_X E.2.2.2.2.1 (sL E) (sX E) s E.2.2.2.1 ∧ E.2.2.2.2.1 < E.2.2.1
theorem Kw.warm {E : Ev} {s U : State} (hW : s.WarmedH U.vm) (h : Kw E s) : Kw E U := ⟨va_K.moved hW.alike h.1, fun q hq => va_Nw.warmM hW (h.2.1 q hq), va_AO.moved hW.alike h.2.2.1, va_AO.moved hW.alike h.2.2.2.1, va_X.moved hW.alike h.2.2.2.2.1, h.2.2.2.2.2⟩
theorem Kw.arr {E : Ev} {s : State} (h : Kw E s) {d : Nat} (hd : d < 4) : ArrOfT s (E.2.1 d) (aty d) ∧ va_RA s (E.2.1 d) (aty d) := by
  match d, hd with
  | 0, _ => exact h.1.2 0 _ rfl
  | 1, _ => exact h.1.2 1 _ rfl
  | 2, _ => exact h.1.2 2 _ rfl
  | 3, _ => exact h.1.2 3 _ rfl
theorem acd_lt (k : Nat) : acd k < 4 := by unfold acd; split <;> (try split) <;> (try split) <;> omega
def RU (E : Ev) (h : Hp) (U : State) : Prop := Rep E h U.heap ∧ Kw E U
/-- a method's contract: from every machine that holds h it returns v, and holds h1, as KK says -/
def Con (E : Ev) (l : Launch) (y : MethodName) (bytes : ByteArray) (maxL : Nat) (ret : Option FieldType) (rm : Room) (As : List Value) (h : Hp) (KK : Option Value → Hp → Prop) : Prop :=
  Met l y (.code y bytes maxL ret :: lwG) rm (va_Pc As (RU E h)) (fun _ _ o t => ∃ v h1, o = .returned v ∧ Rep E h1 t.heap ∧ KK v h1) rm.cells rm.slots (fun q => E.2.2.1 ≤ q)
abbrev Xt : Type := Program × Launch × Env × Room × State × MethodId × Array Value × List Frame × Method × Code × (State → Prop)
/-- locals by place; none: nothing is said -/
def LR (ls : Array Slot) (lo : List (Option Value)) : Prop := ls.size = lo.length ∧ lv_wf ls ∧ ∀ (i : Nat) (v : Value), lo[i]? = some (some v) → ls[i]? = some (.val v)
/-- no long stands just ahead of the place -/
def pv (lo : List (Option Value)) (i : Nat) : Prop := ∀ (j : Nat) (v : Value), j + 1 = i → lo[j]? = some (some v) → v.category = 1
theorem pv0 {lo : List (Option Value)} : pv lo 0 := fun j v h => by omega
theorem pvN {lo : List (Option Value)} {i : Nat} (h : lo[i]? = some none) : pv lo (i + 1) := fun j v e q => by
  obtain rfl : j = i := by omega
  rw [h] at q; cases q
theorem pvI {lo : List (Option Value)} {i : Nat} {x : Int32} (h : lo[i]? = some (some (.int x))) : pv lo (i + 1) := fun j v e q => by
  obtain rfl : j = i := by omega
  rw [h] at q; cases q; rfl
theorem pvR {lo : List (Option Value)} {i : Nat} {x : Nat} (h : lo[i]? = some (some (rv x))) : pv lo (i + 1) := fun j v e q => by
  obtain rfl : j = i := by omega
  rw [h] at q; cases q; exact rv_cat x
def WW (E : Ev) (X : Xt) (h : Hp) (k n pc : Nat) (lo : List (Option Value)) (st : List Value) : Prop :=
  match X with
  | (p, l, e, R, s, m, args, below, meth, c, Q) => ∀ (H : Heap) (locs : List Loc) (ls : Array Slot), Rep E h H → (∀ q ∈ locs, E.2.2.1 ≤ q.base) → LR ls lo → W p l e R s m args below meth c H locs k n Q (F0 m pc ls st)
def Cx (E : Ev) (X : Xt) (l0 : Launch) (own : String) (code : ByteArray) (maxL : Nat) (rm : Room) : Prop :=
  match X with
  | (p, l, _, R, s, m, args, _, meth, c, _) => p.tables.exec = Jvm.exec ∧ c.code = code ∧ c.maxLocals = maxL ∧ s.vm.findClass own = some m.cls ∧ (∀ w ∈ lwG, w.before args s = true) ∧ Kw E s ∧ meth.locks = false ∧ R = rm ∧ l = l0
def CQ (E : Ev) (X : Xt) (nm : String) (ret : Option FieldType) (rm : Room) (KK : Option Value → Hp → Prop) : Prop :=
  match X with
  | (_, _, _, _, s, _, args, below, meth, _, Q) => meth.sig.returnType = ret ∧ meth.name = nm ∧ Q = MQ below (fun _ _ o t => ∃ v h1, o = .returned v ∧ Rep E h1 t.heap ∧ KK v h1) args s rm.cells rm.slots (fun q => E.2.2.1 ≤ q)
section LRs
theorem LR.has {ls : Array Slot} {lo : List (Option Value)} (h : LR ls lo) : lv_has ls lo.length ((List.range lo.length).filterMap (fun i => match lo[i]? with | some (some v) => some (i, v) | _ => none)) := by
  refine ⟨h.1, h.2.1, fun q hq => ?_⟩
  obtain ⟨i, -, hi⟩ := List.mem_filterMap.mp hq
  split at hi
  · rename_i v hv
    cases hi
    exact h.2.2 i v hv
  · cases hi
theorem LR.get {ls : Array Slot} {lo : List (Option Value)} (h : LR ls lo) {i : Nat} {v : Value} (hi : lo[i]? = some (some v)) : ls[i]? = some (.val v) := h.2.2 i v hi
theorem LR.set {ls : Array Slot} {lo : List (Option Value)} (h : LR ls lo) {i : Nat} {v : Value} (hc : v.category = 1) (hi : i < lo.length) (hp : pv lo i) : ∃ ls', storeLocals ls i v = some ls' ∧ LR ls' (lo.set i (some v)) := by
  obtain ⟨ls', e, h1, h2, h3⟩ := lv_store1 h.has hi hc
  refine ⟨ls', e, by rw [h1, List.length_set], h2, fun j w hj => ?_⟩
  by_cases hji : j = i
  · subst hji
    rw [List.getElem?_set_self hi] at hj
    cases hj
    exact h3 _ List.mem_cons_self
  · rw [List.getElem?_set_ne (Ne.symm hji)] at hj
    refine h3 (j, w) (List.mem_cons_of_mem _ (List.mem_filter.mpr ⟨List.mem_filterMap.mpr ⟨j, List.mem_range.mpr (List.getElem?_eq_some_iff.mp hj).1, by simp only [hj]⟩, ?_⟩))
    simp only [Bool.and_eq_true, Bool.not_eq_true', beq_eq_false_iff_ne, ne_eq, Bool.and_eq_false_iff]
    refine ⟨hji, ?_⟩
    by_cases e : j + 1 = i
    · exact Or.inr (by rw [hp j w e hj]; decide)
    · exact Or.inl e
/-- fewer locals -/
def lsub : List (Option Value) → List (Option Value) → Prop
  | [], [] => True
  | a :: l, b :: m => (b = none ∨ b = a) ∧ lsub l m
  | _, _ => False
theorem lsub.len : ∀ {l m : List (Option Value)}, lsub l m → l.length = m.length
  | [], [], _ => rfl
  | _ :: _, _ :: _, h => by rw [List.length_cons, List.length_cons, lsub.len h.2]
  | [], _ :: _, h => h.elim
  | _ :: _, [], h => h.elim
theorem lsub.at : ∀ {l m : List (Option Value)}, lsub l m → ∀ (i : Nat) (v : Value), m[i]? = some (some v) → l[i]? = some (some v)
  | [], [], _, i, v, h => by simp at h
  | a :: l, b :: m, h, i, v, hv => by
    cases i with
    | zero =>
      rw [List.getElem?_cons_zero] at hv ⊢
      rcases h.1 with e | e
      · rw [e] at hv; cases hv
      · rw [← e]; exact hv
    | succ i =>
      rw [List.getElem?_cons_succ] at hv ⊢
      exact lsub.at h.2 i v hv
  | [], _ :: _, h, _, _, _ => h.elim
  | _ :: _, [], h, _, _, _ => h.elim
theorem LR.sub {ls : Array Slot} {lo lo1 : List (Option Value)} (h : LR ls lo) (hs : lsub lo lo1) : LR ls lo1 := ⟨h.1.trans hs.len, h.2.1, fun i v hv => h.2.2 i v (hs.at i v hv)⟩
end LRs
section ROWS
variable {E : Ev} {X : Xt} {l0 : Launch} {own : String} {code : ByteArray} {maxL : Nat} {rm : Room} {h : Hp} {k n pc : Nat} {lo : List (Option Value)} {st : List Value}
theorem r_iadd {x y : Int32} (hC : Cx E X l0 own code maxL rm) (hd : decode code pc = .ok (.iadd, 1)) (kk : WW E X h k n (pc + 1) lo (.int (x + y) :: st)) : WW E X h k n pc lo (.int y :: .int x :: st) := by
  obtain ⟨p, l, e, R, s, m, args, below, meth, c, Q⟩ := X
  obtain ⟨hx, hb, hml, hown, hts, hKw, hlk, hR, hl0⟩ := hC
  intro H locs ls h1 h2 h3
  exact lv_iadd hx hb hd (kk H locs ls h1 h2 h3)
theorem r_isub {x y : Int32} (hC : Cx E X l0 own code maxL rm) (hd : decode code pc = .ok (.isub, 1)) (kk : WW E X h k n (pc + 1) lo (.int (x - y) :: st)) : WW E X h k n pc lo (.int y :: .int x :: st) := by
  obtain ⟨p, l, e, R, s, m, args, below, meth, c, Q⟩ := X
  obtain ⟨hx, hb, hml, hown, hts, hKw, hlk, hR, hl0⟩ := hC
  intro H locs ls h1 h2 h3
  exact lv_isub hx hb hd (kk H locs ls h1 h2 h3)
theorem r_imul {x y : Int32} (hC : Cx E X l0 own code maxL rm) (hd : decode code pc = .ok (.imul, 1)) (kk : WW E X h k n (pc + 1) lo (.int (x * y) :: st)) : WW E X h k n pc lo (.int y :: .int x :: st) := by
  obtain ⟨p, l, e, R, s, m, args, below, meth, c, Q⟩ := X
  obtain ⟨hx, hb, hml, hown, hts, hKw, hlk, hR, hl0⟩ := hC
  intro H locs ls h1 h2 h3
  exact lv_imul hx hb hd (kk H locs ls h1 h2 h3)
theorem r_iand {x y : Int32} (hC : Cx E X l0 own code maxL rm) (hd : decode code pc = .ok (.iand, 1)) (kk : WW E X h k n (pc + 1) lo (.int (x &&& y) :: st)) : WW E X h k n pc lo (.int y :: .int x :: st) := by
  obtain ⟨p, l, e, R, s, m, args, below, meth, c, Q⟩ := X
  obtain ⟨hx, hb, hml, hown, hts, hKw, hlk, hR, hl0⟩ := hC
  intro H locs ls h1 h2 h3
  exact lv_iand hx hb hd (kk H locs ls h1 h2 h3)
theorem r_idiv {x y : Int32} (hC : Cx E X l0 own code maxL rm) (hd : decode code pc = .ok (.idiv, 1)) (hne : ¬ y = 0) (kk : WW E X h k n (pc + 1) lo (.int (x / y) :: st)) : WW E X h k n pc lo (.int y :: .int x :: st) := by
  obtain ⟨p, l, e, R, s, m, args, below, meth, c, Q⟩ := X
  obtain ⟨hx, hb, hml, hown, hts, hKw, hlk, hR, hl0⟩ := hC
  intro H locs ls h1 h2 h3
  exact lv_idiv hx hb hd hne (kk H locs ls h1 h2 h3)
theorem r_irem {x y : Int32} (hC : Cx E X l0 own code maxL rm) (hd : decode code pc = .ok (.irem, 1)) (hne : ¬ y = 0) (kk : WW E X h k n (pc + 1) lo (.int (x - x / y * y) :: st)) : WW E X h k n pc lo (.int y :: .int x :: st) := by
  obtain ⟨p, l, e, R, s, m, args, below, meth, c, Q⟩ := X
  obtain ⟨hx, hb, hml, hown, hts, hKw, hlk, hR, hl0⟩ := hC
  intro H locs ls h1 h2 h3
  exact lv_irem hx hb hd hne (kk H locs ls h1 h2 h3)
theorem r_ineg {x : Int32} (hC : Cx E X l0 own code maxL rm) (hd : decode code pc = .ok (.ineg, 1)) (kk : WW E X h k n (pc + 1) lo (.int (-x) :: st)) : WW E X h k n pc lo (.int x :: st) := by
  obtain ⟨p, l, e, R, s, m, args, below, meth, c, Q⟩ := X
  obtain ⟨hx, hb, hml, hown, hts, hKw, hlk, hR, hl0⟩ := hC
  intro H locs ls h1 h2 h3
  exact lv_ineg hx hb hd (kk H locs ls h1 h2 h3)
theorem r_i2c {x : Int32} (hC : Cx E X l0 own code maxL rm) (hd : decode code pc = .ok (.i2c, 1)) (kk : WW E X h k n (pc + 1) lo (.int (cn x) :: st)) : WW E X h k n pc lo (.int x :: st) := by
  obtain ⟨p, l, e, R, s, m, args, below, meth, c, Q⟩ := X
  obtain ⟨hx, hb, hml, hown, hts, hKw, hlk, hR, hl0⟩ := hC
  intro H locs ls h1 h2 h3
  exact lv_i2c hx hb hd rfl (kk H locs ls h1 h2 h3)
theorem r_iconst {z : Int} {v : Int32} (hC : Cx E X l0 own code maxL rm) (hd : decode code pc = .ok (.iconst z, 1)) (hv : Int32.ofInt z = v) (kk : WW E X h k n (pc + 1) lo (.int v :: st)) : WW E X h k n pc lo (st) := by
  obtain ⟨p, l, e, R, s, m, args, below, meth, c, Q⟩ := X
  obtain ⟨hx, hb, hml, hown, hts, hKw, hlk, hR, hl0⟩ := hC
  intro H locs ls h1 h2 h3
  exact lv_iconst hx hb hd hv (kk H locs ls h1 h2 h3)
theorem r_bipush {z : Int} {v : Int32} (hC : Cx E X l0 own code maxL rm) (hd : decode code pc = .ok (.bipush z, 2)) (hv : (Int8.ofInt z).toInt32 = v) (kk : WW E X h k n (pc + 2) lo (.int v :: st)) : WW E X h k n pc lo (st) := by
  obtain ⟨p, l, e, R, s, m, args, below, meth, c, Q⟩ := X
  obtain ⟨hx, hb, hml, hown, hts, hKw, hlk, hR, hl0⟩ := hC
  intro H locs ls h1 h2 h3
  exact lv_bipush hx hb hd hv (kk H locs ls h1 h2 h3)
theorem r_sipush {z : Int} {v : Int32} (hC : Cx E X l0 own code maxL rm) (hd : decode code pc = .ok (.sipush z, 3)) (hv : (Int16.ofInt z).toInt32 = v) (kk : WW E X h k n (pc + 3) lo (.int v :: st)) : WW E X h k n pc lo (st) := by
  obtain ⟨p, l, e, R, s, m, args, below, meth, c, Q⟩ := X
  obtain ⟨hx, hb, hml, hown, hts, hKw, hlk, hR, hl0⟩ := hC
  intro H locs ls h1 h2 h3
  exact lv_sipush hx hb hd hv (kk H locs ls h1 h2 h3)
theorem r_ldc {index : Nat} {v : Int32} (hC : Cx E X l0 own code maxL rm) (hd : decode code pc = .ok (.ldc index, 2)) (hw : Cond.constant own index v ∈ lwG) (kk : WW E X h k n (pc + 2) lo (.int v :: st)) : WW E X h k n pc lo st := by
  obtain ⟨p, l, e, R, s, m, args, below, meth, c, Q⟩ := X
  obtain ⟨hx, hb, hml, hown, hts, hKw, hlk, hR, hl0⟩ := hC
  intro H locs ls h1 h2 h3
  exact lv_ldc hx hb hown (hts _ hw) hd (kk H locs ls h1 h2 h3)
theorem r_dup {v : Value} (hC : Cx E X l0 own code maxL rm) (hd : decode code pc = .ok (.dup, 1)) (hv : v.category = 1) (kk : WW E X h k n (pc + 1) lo (v :: v :: st)) : WW E X h k n pc lo (v :: st) := by
  obtain ⟨p, l, e, R, s, m, args, below, meth, c, Q⟩ := X
  obtain ⟨hx, hb, hml, hown, hts, hKw, hlk, hR, hl0⟩ := hC
  intro H locs ls h1 h2 h3
  exact lv_dup hx hb hd hv (kk H locs ls h1 h2 h3)
theorem r_dup2 {v w : Value} (hC : Cx E X l0 own code maxL rm) (hd : decode code pc = .ok (.dup2, 1)) (hv : v.category = 1) (hw : w.category = 1) (kk : WW E X h k n (pc + 1) lo (v :: w :: v :: w :: st)) : WW E X h k n pc lo (v :: w :: st) := by
  obtain ⟨p, l, e, R, s, m, args, below, meth, c, Q⟩ := X
  obtain ⟨hx, hb, hml, hown, hts, hKw, hlk, hR, hl0⟩ := hC
  intro H locs ls h1 h2 h3
  exact lv_dup2_11 hx hb hd hv hw (kk H locs ls h1 h2 h3)
theorem r_null  (hC : Cx E X l0 own code maxL rm) (hd : decode code pc = .ok (.aconst_null, 1)) (kk : WW E X h k n (pc + 1) lo (rv 0 :: st)) : WW E X h k n pc lo (st) := by
  obtain ⟨p, l, e, R, s, m, args, below, meth, c, Q⟩ := X
  obtain ⟨hx, hb, hml, hown, hts, hKw, hlk, hR, hl0⟩ := hC
  intro H locs ls h1 h2 h3
  exact lv_null hx hb hd (kk H locs ls h1 h2 h3)
theorem r_iload_n {f : Fin 4} {x : Int32} (hC : Cx E X l0 own code maxL rm) (hd : decode code pc = .ok (.iload_n f, 1)) (hi : lo[(f : Nat)]? = some (some (.int x))) (kk : WW E X h k n (pc + 1) lo (.int x :: st)) : WW E X h k n pc lo st := by
  obtain ⟨p, l, e, R, s, m, args, below, meth, c, Q⟩ := X
  obtain ⟨hx, hb, hml, hown, hts, hKw, hlk, hR, hl0⟩ := hC
  intro H locs ls h1 h2 h3
  exact lv_iload_n hx hb hd rfl (h3.get hi) (kk H locs ls h1 h2 h3)
theorem r_iload {i : Nat} {x : Int32} (hC : Cx E X l0 own code maxL rm) (hd : decode code pc = .ok (.iload i, 2)) (hi : lo[i]? = some (some (.int x))) (kk : WW E X h k n (pc + 2) lo (.int x :: st)) : WW E X h k n pc lo st := by
  obtain ⟨p, l, e, R, s, m, args, below, meth, c, Q⟩ := X
  obtain ⟨hx, hb, hml, hown, hts, hKw, hlk, hR, hl0⟩ := hC
  intro H locs ls h1 h2 h3
  exact lv_iload hx hb hd (h3.get hi) (kk H locs ls h1 h2 h3)
theorem r_aload_n {f : Fin 4} {x : Nat} (hC : Cx E X l0 own code maxL rm) (hd : decode code pc = .ok (.aload_n f, 1)) (hi : lo[(f : Nat)]? = some (some (rv x))) (kk : WW E X h k n (pc + 1) lo (rv x :: st)) : WW E X h k n pc lo st := by
  obtain ⟨p, l, e, R, s, m, args, below, meth, c, Q⟩ := X
  obtain ⟨hx, hb, hml, hown, hts, hKw, hlk, hR, hl0⟩ := hC
  intro H locs ls h1 h2 h3
  cases x with
  | zero => exact lv_aload_nN hx hb hd rfl (h3.get hi) (kk H locs ls h1 h2 h3)
  | succ x => exact lv_aload_n hx hb hd rfl (h3.get hi) (kk H locs ls h1 h2 h3)
theorem r_aload {i : Nat} {x : Nat} (hC : Cx E X l0 own code maxL rm) (hd : decode code pc = .ok (.aload i, 2)) (hi : lo[i]? = some (some (rv x))) (kk : WW E X h k n (pc + 2) lo (rv x :: st)) : WW E X h k n pc lo st := by
  obtain ⟨p, l, e, R, s, m, args, below, meth, c, Q⟩ := X
  obtain ⟨hx, hb, hml, hown, hts, hKw, hlk, hR, hl0⟩ := hC
  intro H locs ls h1 h2 h3
  cases x with
  | zero => exact lv_aloadN hx hb hd (h3.get hi) (kk H locs ls h1 h2 h3)
  | succ x => exact lv_aload hx hb hd (h3.get hi) (kk H locs ls h1 h2 h3)
theorem LR.set2 {ls : Array Slot} {lo lo1 : List (Option Value)} {i : Nat} {v : Value} (h : LR ls lo) (hc : v.category = 1) (hi : i < lo.length) (hp : pv lo i) (hl : lo.set i (some v) = lo1) : ∀ ls' : Array Slot, lv_has ls' lo.length ((i, v) :: ((List.range lo.length).filterMap (fun i => match lo[i]? with | some (some v) => some (i, v) | _ => none)).filter (fun q => !(q.1 == i) && !(q.1 + 1 == i && q.2.category == 2))) → LR ls' lo1 := by
  intro ls' ⟨h1, h2, h3⟩
  subst hl
  refine ⟨by rw [h1, List.length_set], h2, fun j w hj => ?_⟩
  by_cases hji : j = i
  · subst hji
    rw [List.getElem?_set_self hi] at hj
    cases hj
    exact h3 _ List.mem_cons_self
  · rw [List.getElem?_set_ne (Ne.symm hji)] at hj
    refine h3 (j, w) (List.mem_cons_of_mem _ (List.mem_filter.mpr ⟨List.mem_filterMap.mpr ⟨j, List.mem_range.mpr (List.getElem?_eq_some_iff.mp hj).1, by simp only [hj]⟩, ?_⟩))
    simp only [Bool.and_eq_true, Bool.not_eq_true', beq_eq_false_iff_ne, ne_eq, Bool.and_eq_false_iff]
    refine ⟨hji, ?_⟩
    by_cases e : j + 1 = i
    · exact Or.inr (by rw [hp j w e hj]; decide)
    · exact Or.inl e
theorem r_istore_n {f : Fin 4} {ii : Nat} {x : Int32} {lo1 : List (Option Value)} (hC : Cx E X l0 own code maxL rm) (hd : decode code pc = .ok (.istore_n f, 1)) (hf : (f : Nat) = ii) (hi : ii < lo.length) (hp : pv lo ii) (hl : lo.set ii (some (.int x)) = lo1) (kk : WW E X h k n (pc + 1) lo1 st) : WW E X h k n pc lo (.int x :: st) := by
  subst hf
  obtain ⟨p, l, e, R, s, m, args, below, meth, c, Q⟩ := X
  obtain ⟨hx, hb, hml, hown, hts, hKw, hlk, hR, hl0⟩ := hC
  intro H locs ls h1 h2 h3
  exact lv_istore_n hx hb hd rfl h3.has hi rfl (fun ls1 q => kk H locs ls1 h1 h2 (h3.set2 rfl hi hp hl ls1 q))
theorem r_istore {i : Nat} {x : Int32} {lo1 : List (Option Value)} (hC : Cx E X l0 own code maxL rm) (hd : decode code pc = .ok (.istore i, 2)) (hi : i < lo.length) (hp : pv lo i) (hl : lo.set i (some (.int x)) = lo1) (kk : WW E X h k n (pc + 2) lo1 st) : WW E X h k n pc lo (.int x :: st) := by
  obtain ⟨p, l, e, R, s, m, args, below, meth, c, Q⟩ := X
  obtain ⟨hx, hb, hml, hown, hts, hKw, hlk, hR, hl0⟩ := hC
  intro H locs ls h1 h2 h3
  exact lv_istore hx hb hd h3.has hi rfl (fun ls1 q => kk H locs ls1 h1 h2 (h3.set2 rfl hi hp hl ls1 q))
theorem r_astore_n {f : Fin 4} {ii : Nat} {x : Nat} {lo1 : List (Option Value)} (hC : Cx E X l0 own code maxL rm) (hd : decode code pc = .ok (.astore_n f, 1)) (hf : (f : Nat) = ii) (hi : ii < lo.length) (hp : pv lo ii) (hl : lo.set ii (some (rv x)) = lo1) (kk : WW E X h k n (pc + 1) lo1 st) : WW E X h k n pc lo (rv x :: st) := by
  subst hf
  obtain ⟨p, l, e, R, s, m, args, below, meth, c, Q⟩ := X
  obtain ⟨hx, hb, hml, hown, hts, hKw, hlk, hR, hl0⟩ := hC
  intro H locs ls h1 h2 h3
  cases x with
  | zero => exact lv_astore_nN hx hb hd rfl h3.has hi rfl (fun ls1 q => kk H locs ls1 h1 h2 (h3.set2 rfl hi hp hl ls1 q))
  | succ x => exact lv_astore_n hx hb hd rfl h3.has hi rfl (fun ls1 q => kk H locs ls1 h1 h2 (h3.set2 rfl hi hp hl ls1 q))
theorem r_astore {i : Nat} {x : Nat} {lo1 : List (Option Value)} (hC : Cx E X l0 own code maxL rm) (hd : decode code pc = .ok (.astore i, 2)) (hi : i < lo.length) (hp : pv lo i) (hl : lo.set i (some (rv x)) = lo1) (kk : WW E X h k n (pc + 2) lo1 st) : WW E X h k n pc lo (rv x :: st) := by
  obtain ⟨p, l, e, R, s, m, args, below, meth, c, Q⟩ := X
  obtain ⟨hx, hb, hml, hown, hts, hKw, hlk, hR, hl0⟩ := hC
  intro H locs ls h1 h2 h3
  cases x with
  | zero => exact lv_astoreN hx hb hd h3.has hi rfl (fun ls1 q => kk H locs ls1 h1 h2 (h3.set2 rfl hi hp hl ls1 q))
  | succ x => exact lv_astore hx hb hd h3.has hi rfl (fun ls1 q => kk H locs ls1 h1 h2 (h3.set2 rfl hi hp hl ls1 q))
theorem r_iinc {i : Nat} {z : Int} {x v : Int32} {lo1 : List (Option Value)} (hC : Cx E X l0 own code maxL rm) (hd : decode code pc = .ok (.iinc i z, 3)) (hi : lo[i]? = some (some (.int x))) (hv : Int32.ofInt z = v) (hp : pv lo i) (hl : lo.set i (some (.int (x + v))) = lo1) (kk : WW E X h k n (pc + 3) lo1 st) : WW E X h k n pc lo st := by
  obtain ⟨p, l, e, R, s, m, args, below, meth, c, Q⟩ := X
  obtain ⟨hx, hb, hml, hown, hts, hKw, hlk, hR, hl0⟩ := hC
  intro H locs ls h1 h2 h3
  have hlt : i < lo.length := (List.getElem?_eq_some_iff.mp hi).1
  have hm : (i, Value.int x) ∈ (List.range lo.length).filterMap (fun i => match lo[i]? with | some (some v) => some (i, v) | _ => none) := List.mem_filterMap.mpr ⟨i, List.mem_range.mpr hlt, by simp only [hi]⟩
  obtain ⟨j, hj⟩ := List.getElem?_of_mem hm
  exact lv_iinc hx hb hd h3.has (k := j) hj (by rw [hv]) hlt rfl (fun ls1 q => kk H locs ls1 h1 h2 (h3.set2 rfl hlt hp hl ls1 q))
theorem r_icmp_eq {x y : Int32} {off : Int} {tgt : Nat} (hC : Cx E X l0 own code maxL rm) (hd : decode code pc = .ok (.if_icmp .eq off, 3)) (ht : (pc : Int) + off = (tgt : Int)) (kt : x = y → WW E X h k n tgt lo st) (kf : ¬ (x = y) → WW E X h k n (pc + 3) lo st) : WW E X h k n pc lo (.int y :: .int x :: st) := by
  obtain ⟨p, l, e, R, s, m, args, below, meth, c, Q⟩ := X
  obtain ⟨hx, hb, hml, hown, hts, hKw, hlk, hR, hl0⟩ := hC
  intro H locs ls h1 h2 h3
  exact lv_icmp_eq hx hb hd ht (fun q => kt (q) H locs ls h1 h2 h3) (fun q => kf (q) H locs ls h1 h2 h3)
theorem r_if_eq {x : Int32} {off : Int} {tgt : Nat} (hC : Cx E X l0 own code maxL rm) (hd : decode code pc = .ok (.ifCond .eq off, 3)) (ht : (pc : Int) + off = (tgt : Int)) (kt : x = 0 → WW E X h k n tgt lo st) (kf : ¬ (x = 0) → WW E X h k n (pc + 3) lo st) : WW E X h k n pc lo (.int x :: st) := by
  obtain ⟨p, l, e, R, s, m, args, below, meth, c, Q⟩ := X
  obtain ⟨hx, hb, hml, hown, hts, hKw, hlk, hR, hl0⟩ := hC
  intro H locs ls h1 h2 h3
  exact lv_if_eq hx hb hd ht (fun q => kt (q) H locs ls h1 h2 h3) (fun q => kf (q) H locs ls h1 h2 h3)
theorem r_icmp_ne {x y : Int32} {off : Int} {tgt : Nat} (hC : Cx E X l0 own code maxL rm) (hd : decode code pc = .ok (.if_icmp .ne off, 3)) (ht : (pc : Int) + off = (tgt : Int)) (kt : ¬ x = y → WW E X h k n tgt lo st) (kf : x = y → WW E X h k n (pc + 3) lo st) : WW E X h k n pc lo (.int y :: .int x :: st) := by
  obtain ⟨p, l, e, R, s, m, args, below, meth, c, Q⟩ := X
  obtain ⟨hx, hb, hml, hown, hts, hKw, hlk, hR, hl0⟩ := hC
  intro H locs ls h1 h2 h3
  exact lv_icmp_ne hx hb hd ht (fun q => kt (q) H locs ls h1 h2 h3) (fun q => kf (q) H locs ls h1 h2 h3)
theorem r_if_ne {x : Int32} {off : Int} {tgt : Nat} (hC : Cx E X l0 own code maxL rm) (hd : decode code pc = .ok (.ifCond .ne off, 3)) (ht : (pc : Int) + off = (tgt : Int)) (kt : ¬ x = 0 → WW E X h k n tgt lo st) (kf : x = 0 → WW E X h k n (pc + 3) lo st) : WW E X h k n pc lo (.int x :: st) := by
  obtain ⟨p, l, e, R, s, m, args, below, meth, c, Q⟩ := X
  obtain ⟨hx, hb, hml, hown, hts, hKw, hlk, hR, hl0⟩ := hC
  intro H locs ls h1 h2 h3
  exact lv_if_ne hx hb hd ht (fun q => kt (q) H locs ls h1 h2 h3) (fun q => kf (q) H locs ls h1 h2 h3)
theorem r_icmp_lt {x y : Int32} {off : Int} {tgt : Nat} (hC : Cx E X l0 own code maxL rm) (hd : decode code pc = .ok (.if_icmp .lt off, 3)) (ht : (pc : Int) + off = (tgt : Int)) (kt : x < y → WW E X h k n tgt lo st) (kf : ¬ (x < y) → WW E X h k n (pc + 3) lo st) : WW E X h k n pc lo (.int y :: .int x :: st) := by
  obtain ⟨p, l, e, R, s, m, args, below, meth, c, Q⟩ := X
  obtain ⟨hx, hb, hml, hown, hts, hKw, hlk, hR, hl0⟩ := hC
  intro H locs ls h1 h2 h3
  exact lv_icmp_lt hx hb hd ht (fun q => kt (q) H locs ls h1 h2 h3) (fun q => kf (q) H locs ls h1 h2 h3)
theorem r_if_lt {x : Int32} {off : Int} {tgt : Nat} (hC : Cx E X l0 own code maxL rm) (hd : decode code pc = .ok (.ifCond .lt off, 3)) (ht : (pc : Int) + off = (tgt : Int)) (kt : x < 0 → WW E X h k n tgt lo st) (kf : ¬ (x < 0) → WW E X h k n (pc + 3) lo st) : WW E X h k n pc lo (.int x :: st) := by
  obtain ⟨p, l, e, R, s, m, args, below, meth, c, Q⟩ := X
  obtain ⟨hx, hb, hml, hown, hts, hKw, hlk, hR, hl0⟩ := hC
  intro H locs ls h1 h2 h3
  exact lv_if_lt hx hb hd ht (fun q => kt (q) H locs ls h1 h2 h3) (fun q => kf (q) H locs ls h1 h2 h3)
theorem r_icmp_ge {x y : Int32} {off : Int} {tgt : Nat} (hC : Cx E X l0 own code maxL rm) (hd : decode code pc = .ok (.if_icmp .ge off, 3)) (ht : (pc : Int) + off = (tgt : Int)) (kt : y ≤ x → WW E X h k n tgt lo st) (kf : ¬ (y ≤ x) → WW E X h k n (pc + 3) lo st) : WW E X h k n pc lo (.int y :: .int x :: st) := by
  obtain ⟨p, l, e, R, s, m, args, below, meth, c, Q⟩ := X
  obtain ⟨hx, hb, hml, hown, hts, hKw, hlk, hR, hl0⟩ := hC
  intro H locs ls h1 h2 h3
  exact lv_icmp_ge hx hb hd ht (fun q => kt (q) H locs ls h1 h2 h3) (fun q => kf (q) H locs ls h1 h2 h3)
theorem r_if_ge {x : Int32} {off : Int} {tgt : Nat} (hC : Cx E X l0 own code maxL rm) (hd : decode code pc = .ok (.ifCond .ge off, 3)) (ht : (pc : Int) + off = (tgt : Int)) (kt : 0 ≤ x → WW E X h k n tgt lo st) (kf : ¬ (0 ≤ x) → WW E X h k n (pc + 3) lo st) : WW E X h k n pc lo (.int x :: st) := by
  obtain ⟨p, l, e, R, s, m, args, below, meth, c, Q⟩ := X
  obtain ⟨hx, hb, hml, hown, hts, hKw, hlk, hR, hl0⟩ := hC
  intro H locs ls h1 h2 h3
  exact lv_if_ge hx hb hd ht (fun q => kt (q) H locs ls h1 h2 h3) (fun q => kf (q) H locs ls h1 h2 h3)
theorem r_icmp_gt {x y : Int32} {off : Int} {tgt : Nat} (hC : Cx E X l0 own code maxL rm) (hd : decode code pc = .ok (.if_icmp .gt off, 3)) (ht : (pc : Int) + off = (tgt : Int)) (kt : y < x → WW E X h k n tgt lo st) (kf : ¬ (y < x) → WW E X h k n (pc + 3) lo st) : WW E X h k n pc lo (.int y :: .int x :: st) := by
  obtain ⟨p, l, e, R, s, m, args, below, meth, c, Q⟩ := X
  obtain ⟨hx, hb, hml, hown, hts, hKw, hlk, hR, hl0⟩ := hC
  intro H locs ls h1 h2 h3
  exact lv_icmp_gt hx hb hd ht (fun q => kt (q) H locs ls h1 h2 h3) (fun q => kf (q) H locs ls h1 h2 h3)
theorem r_if_gt {x : Int32} {off : Int} {tgt : Nat} (hC : Cx E X l0 own code maxL rm) (hd : decode code pc = .ok (.ifCond .gt off, 3)) (ht : (pc : Int) + off = (tgt : Int)) (kt : 0 < x → WW E X h k n tgt lo st) (kf : ¬ (0 < x) → WW E X h k n (pc + 3) lo st) : WW E X h k n pc lo (.int x :: st) := by
  obtain ⟨p, l, e, R, s, m, args, below, meth, c, Q⟩ := X
  obtain ⟨hx, hb, hml, hown, hts, hKw, hlk, hR, hl0⟩ := hC
  intro H locs ls h1 h2 h3
  exact lv_if_gt hx hb hd ht (fun q => kt (q) H locs ls h1 h2 h3) (fun q => kf (q) H locs ls h1 h2 h3)
theorem r_icmp_le {x y : Int32} {off : Int} {tgt : Nat} (hC : Cx E X l0 own code maxL rm) (hd : decode code pc = .ok (.if_icmp .le off, 3)) (ht : (pc : Int) + off = (tgt : Int)) (kt : x ≤ y → WW E X h k n tgt lo st) (kf : ¬ (x ≤ y) → WW E X h k n (pc + 3) lo st) : WW E X h k n pc lo (.int y :: .int x :: st) := by
  obtain ⟨p, l, e, R, s, m, args, below, meth, c, Q⟩ := X
  obtain ⟨hx, hb, hml, hown, hts, hKw, hlk, hR, hl0⟩ := hC
  intro H locs ls h1 h2 h3
  exact lv_icmp_le hx hb hd ht (fun q => kt (q) H locs ls h1 h2 h3) (fun q => kf (q) H locs ls h1 h2 h3)
theorem r_if_le {x : Int32} {off : Int} {tgt : Nat} (hC : Cx E X l0 own code maxL rm) (hd : decode code pc = .ok (.ifCond .le off, 3)) (ht : (pc : Int) + off = (tgt : Int)) (kt : x ≤ 0 → WW E X h k n tgt lo st) (kf : ¬ (x ≤ 0) → WW E X h k n (pc + 3) lo st) : WW E X h k n pc lo (.int x :: st) := by
  obtain ⟨p, l, e, R, s, m, args, below, meth, c, Q⟩ := X
  obtain ⟨hx, hb, hml, hown, hts, hKw, hlk, hR, hl0⟩ := hC
  intro H locs ls h1 h2 h3
  exact lv_if_le hx hb hd ht (fun q => kt (q) H locs ls h1 h2 h3) (fun q => kf (q) H locs ls h1 h2 h3)
theorem r_ifnull {x : Nat} {off : Int} {tgt : Nat} (hC : Cx E X l0 own code maxL rm) (hd : decode code pc = .ok (.ifnull off, 3)) (ht : (pc : Int) + off = (tgt : Int)) (kt : x = 0 → WW E X h k n tgt lo st) (kf : ¬ x = 0 → WW E X h k n (pc + 3) lo st) : WW E X h k n pc lo (rv x :: st) := by
  obtain ⟨p, l, e, R, s, m, args, below, meth, c, Q⟩ := X
  obtain ⟨hx, hb, hml, hown, hts, hKw, hlk, hR, hl0⟩ := hC
  intro H locs ls h1 h2 h3
  cases x with
  | zero => exact lv_ifnullN hx hb hd ht (kt rfl H locs ls h1 h2 h3)
  | succ x => exact lv_ifnull hx hb hd (kf (Nat.succ_ne_zero x) H locs ls h1 h2 h3)
theorem r_ifnonnull {x : Nat} {off : Int} {tgt : Nat} (hC : Cx E X l0 own code maxL rm) (hd : decode code pc = .ok (.ifnonnull off, 3)) (ht : (pc : Int) + off = (tgt : Int)) (kt : ¬ x = 0 → WW E X h k n tgt lo st) (kf : x = 0 → WW E X h k n (pc + 3) lo st) : WW E X h k n pc lo (rv x :: st) := by
  obtain ⟨p, l, e, R, s, m, args, below, meth, c, Q⟩ := X
  obtain ⟨hx, hb, hml, hown, hts, hKw, hlk, hR, hl0⟩ := hC
  intro H locs ls h1 h2 h3
  cases x with
  | zero => exact lv_ifnonnullN hx hb hd (kf rfl H locs ls h1 h2 h3)
  | succ x => exact lv_ifnonnull hx hb hd ht (kt (Nat.succ_ne_zero x) H locs ls h1 h2 h3)
theorem r_goto {off : Int} {tgt : Nat} (hC : Cx E X l0 own code maxL rm) (hd : decode code pc = .ok (.goto off, 3)) (ht : (pc : Int) + off = (tgt : Int)) (kk : WW E X h k n tgt lo st) : WW E X h k n pc lo st := by
  obtain ⟨p, l, e, R, s, m, args, below, meth, c, Q⟩ := X
  obtain ⟨hx, hb, hml, hown, hts, hKw, hlk, hR, hl0⟩ := hC
  intro H locs ls h1 h2 h3
  exact lv_goto hx hb hd ht (kk H locs ls h1 h2 h3)
theorem r_sub {lo1 : List (Option Value)} (hs : lsub lo lo1) (kk : WW E X h k n pc lo1 st) : WW E X h k n pc lo st := by
  obtain ⟨p, l, e, R, s, m, args, below, meth, c, Q⟩ := X
  intro H locs ls h1 h2 h3
  exact kk H locs ls h1 h2 (h3.sub hs)
theorem r_wide {k1 n1 : Nat} (hk : k ≤ k1) (hn : n ≤ n1) (kk : WW E X h k1 n1 pc lo st) : WW E X h k n pc lo st := by
  obtain ⟨p, l, e, R, s, m, args, below, meth, c, Q⟩ := X
  intro H locs ls h1 h2 h3
  exact W.widen hk hn (kk H locs ls h1 h2 h3)
theorem r_tabIn {dflt lo' hi : Int} {offs : Array Int} {len : Nat} {x : Int32} {off : Int} {tgt : Nat} (hC : Cx E X l0 own code maxL rm) (hd : decode code pc = .ok (.tableswitch dflt lo' hi offs, len)) (i : Nat) (hx0 : x.toInt = lo' + (i : Int)) (hi1 : ¬ hi < lo' + (i : Int)) (ho : offs[i]? = some off) (ht : (pc : Int) + off = (tgt : Int)) (kk : WW E X h k n tgt lo st) : WW E X h k n pc lo (.int x :: st) := by
  obtain ⟨p, l, e, R, s, m, args, below, meth, c, Q⟩ := X
  obtain ⟨hx, hb, hml, hown, hts, hKw, hlk, hR, hl0⟩ := hC
  intro H locs ls h1 h2 h3
  exact lv_tableIn hx hb hd (by rw [hx0]; omega) (by rw [hx0]; exact hi1) (by rw [hx0, show lo' + (i : Int) - lo' = (i : Int) by omega, Int.toNat_natCast]; exact ho) ht (kk H locs ls h1 h2 h3)
theorem r_tabOut {dflt lo' hi : Int} {offs : Array Int} {len : Nat} {x : Int32} {tgt : Nat} (hC : Cx E X l0 own code maxL rm) (hd : decode code pc = .ok (.tableswitch dflt lo' hi offs, len)) (hx0 : x.toInt < lo' ∨ hi < x.toInt) (ht : (pc : Int) + dflt = (tgt : Int)) (kk : WW E X h k n tgt lo st) : WW E X h k n pc lo (.int x :: st) := by
  obtain ⟨p, l, e, R, s, m, args, below, meth, c, Q⟩ := X
  obtain ⟨hx, hb, hml, hown, hts, hKw, hlk, hR, hl0⟩ := hC
  intro H locs ls h1 h2 h3
  exact lv_tableOut hx hb hd hx0 ht (kk H locs ls h1 h2 h3)
theorem r_ixor {x y : Int32} (hC : Cx E X l0 own code maxL rm) (hd : decode code pc = .ok (.ixor, 1)) (kk : WW E X h k n (pc + 1) lo (.int (x ^^^ y) :: st)) : WW E X h k n pc lo (.int y :: .int x :: st) := by
  obtain ⟨p, l, e, R, s, m, args, below, meth, c, Q⟩ := X
  obtain ⟨hx, hb, hml, hown, hts, hKw, hlk, hR, hl0⟩ := hC
  intro H locs ls h1 h2 h3
  exact lv_ixor hx hb hd (kk H locs ls h1 h2 h3)
theorem r_ishr {x y : Int32} (hC : Cx E X l0 own code maxL rm) (hd : decode code pc = .ok (.ishr, 1)) (kk : WW E X h k n (pc + 1) lo (.int (x >>> (y &&& 31)) :: st)) : WW E X h k n pc lo (.int y :: .int x :: st) := by
  obtain ⟨p, l, e, R, s, m, args, below, meth, c, Q⟩ := X
  obtain ⟨hx, hb, hml, hown, hts, hKw, hlk, hR, hl0⟩ := hC
  intro H locs ls h1 h2 h3
  exact lv_ishr hx hb hd (kk H locs ls h1 h2 h3)
theorem r_lmul {x y : Int64} (hC : Cx E X l0 own code maxL rm) (hd : decode code pc = .ok (.lmul, 1)) (kk : WW E X h k n (pc + 1) lo (.long (x * y) :: st)) : WW E X h k n pc lo (.long y :: .long x :: st) := by
  obtain ⟨p, l, e, R, s, m, args, below, meth, c, Q⟩ := X
  obtain ⟨hx, hb, hml, hown, hts, hKw, hlk, hR, hl0⟩ := hC
  intro H locs ls h1 h2 h3
  exact lv_lmul hx hb hd (kk H locs ls h1 h2 h3)
theorem r_ladd {x y : Int64} (hC : Cx E X l0 own code maxL rm) (hd : decode code pc = .ok (.ladd, 1)) (kk : WW E X h k n (pc + 1) lo (.long (x + y) :: st)) : WW E X h k n pc lo (.long y :: .long x :: st) := by
  obtain ⟨p, l, e, R, s, m, args, below, meth, c, Q⟩ := X
  obtain ⟨hx, hb, hml, hown, hts, hKw, hlk, hR, hl0⟩ := hC
  intro H locs ls h1 h2 h3
  exact lv_ladd hx hb hd (kk H locs ls h1 h2 h3)
theorem r_i2l {x : Int32} (hC : Cx E X l0 own code maxL rm) (hd : decode code pc = .ok (.i2l, 1)) (kk : WW E X h k n (pc + 1) lo (.long x.toInt64 :: st)) : WW E X h k n pc lo (.int x :: st) := by
  obtain ⟨p, l, e, R, s, m, args, below, meth, c, Q⟩ := X
  obtain ⟨hx, hb, hml, hown, hts, hKw, hlk, hR, hl0⟩ := hC
  intro H locs ls h1 h2 h3
  exact lv_i2l hx hb hd rfl (kk H locs ls h1 h2 h3)
theorem r_lcmp {x y : Int64} (hC : Cx E X l0 own code maxL rm) (hd : decode code pc = .ok (.lcmp, 1)) (kk : WW E X h k n (pc + 1) lo (.int (lg_cmp x y) :: st)) : WW E X h k n pc lo (.long y :: .long x :: st) := by
  obtain ⟨p, l, e, R, s, m, args, below, meth, c, Q⟩ := X
  obtain ⟨hx, hb, hml, hown, hts, hKw, hlk, hR, hl0⟩ := hC
  intro H locs ls h1 h2 h3
  exact W.lcmp hx hb hd (kk H locs ls h1 h2 h3)
theorem r_ldc2 {index : Nat} {v : Int64} (hC : Cx E X l0 own code maxL rm) (hd : decode code pc = .ok (.ldc2_w index, 3)) (hw : Cond.constantLong own index v ∈ lwG) (kk : WW E X h k n (pc + 3) lo (.long v :: st)) : WW E X h k n pc lo st := by
  obtain ⟨p, l, e, R, s, m, args, below, meth, c, Q⟩ := X
  obtain ⟨hx, hb, hml, hown, hts, hKw, hlk, hR, hl0⟩ := hC
  intro H locs ls h1 h2 h3
  exact lv_ldc2 hx hb hown (hts _ hw) hd (kk H locs ls h1 h2 h3)
theorem r_lload_n {f : Fin 4} {x : Int64} (hC : Cx E X l0 own code maxL rm) (hd : decode code pc = .ok (.lload_n f, 1)) (hi : lo[(f : Nat)]? = some (some (.long x))) (kk : WW E X h k n (pc + 1) lo (.long x :: st)) : WW E X h k n pc lo st := by
  obtain ⟨p, l, e, R, s, m, args, below, meth, c, Q⟩ := X
  obtain ⟨hx, hb, hml, hown, hts, hKw, hlk, hR, hl0⟩ := hC
  intro H locs ls h1 h2 h3
  exact lv_lload_n hx hb hd rfl (h3.get hi) (kk H locs ls h1 h2 h3)
theorem r_lload {i : Nat} {x : Int64} (hC : Cx E X l0 own code maxL rm) (hd : decode code pc = .ok (.lload i, 2)) (hi : lo[i]? = some (some (.long x))) (kk : WW E X h k n (pc + 2) lo (.long x :: st)) : WW E X h k n pc lo st := by
  obtain ⟨p, l, e, R, s, m, args, below, meth, c, Q⟩ := X
  obtain ⟨hx, hb, hml, hown, hts, hKw, hlk, hR, hl0⟩ := hC
  intro H locs ls h1 h2 h3
  exact lv_lload hx hb hd (h3.get hi) (kk H locs ls h1 h2 h3)
theorem LR.setL {ls : Array Slot} {lo lo1 : List (Option Value)} {i : Nat} {x : Int64} (h : LR ls lo) (hi : i + 1 < lo.length) (hp : pv lo i) (hl : (lo.set i (some (.long x))).set (i + 1) none = lo1) : ∀ ls' : Array Slot, lv_has ls' lo.length ((i, .long x) :: ((List.range lo.length).filterMap (fun i => match lo[i]? with | some (some v) => some (i, v) | _ => none)).filter (fun q => !(q.1 == i) && (!(q.1 == i + 1) && !(q.1 + 1 == i && q.2.category == 2)))) → LR ls' lo1 := by
  intro ls' ⟨h1, h2, h3⟩
  subst hl
  refine ⟨by rw [h1, List.length_set, List.length_set], h2, fun j w hj => ?_⟩
  by_cases hj1 : j = i + 1
  · subst hj1
    rw [List.getElem?_set_self (by rw [List.length_set]; exact hi)] at hj
    cases hj
  · rw [List.getElem?_set_ne (Ne.symm hj1)] at hj
    by_cases hji : j = i
    · subst hji
      rw [List.getElem?_set_self (by omega)] at hj
      cases hj
      exact h3 _ List.mem_cons_self
    · rw [List.getElem?_set_ne (Ne.symm hji)] at hj
      refine h3 (j, w) (List.mem_cons_of_mem _ (List.mem_filter.mpr ⟨List.mem_filterMap.mpr ⟨j, List.mem_range.mpr (List.getElem?_eq_some_iff.mp hj).1, by simp only [hj]⟩, ?_⟩))
      simp only [Bool.and_eq_true, Bool.not_eq_true', beq_eq_false_iff_ne, ne_eq, Bool.and_eq_false_iff]
      refine ⟨hji, hj1, ?_⟩
      by_cases e : j + 1 = i
      · exact Or.inr (by rw [hp j w e hj]; decide)
      · exact Or.inl e
theorem r_lstore_n {f : Fin 4} {ii : Nat} {x : Int64} {lo1 : List (Option Value)} (hC : Cx E X l0 own code maxL rm) (hd : decode code pc = .ok (.lstore_n f, 1)) (hf : (f : Nat) = ii) (hi : ii + 1 < lo.length) (hp : pv lo ii) (hl : (lo.set ii (some (.long x))).set (ii + 1) none = lo1) (kk : WW E X h k n (pc + 1) lo1 st) : WW E X h k n pc lo (.long x :: st) := by
  subst hf
  obtain ⟨p, l, e, R, s, m, args, below, meth, c, Q⟩ := X
  obtain ⟨hx, hb, hml, hown, hts, hKw, hlk, hR, hl0⟩ := hC
  intro H locs ls h1 h2 h3
  exact lv_lstore_n hx hb hd rfl h3.has hi rfl (fun ls1 q => kk H locs ls1 h1 h2 (h3.setL hi hp hl ls1 q))
theorem r_lstore {i : Nat} {x : Int64} {lo1 : List (Option Value)} (hC : Cx E X l0 own code maxL rm) (hd : decode code pc = .ok (.lstore i, 2)) (hi : i + 1 < lo.length) (hp : pv lo i) (hl : (lo.set i (some (.long x))).set (i + 1) none = lo1) (kk : WW E X h k n (pc + 2) lo1 st) : WW E X h k n pc lo (.long x :: st) := by
  obtain ⟨p, l, e, R, s, m, args, below, meth, c, Q⟩ := X
  obtain ⟨hx, hb, hml, hown, hts, hKw, hlk, hR, hl0⟩ := hC
  intro H locs ls h1 h2 h3
  exact lv_lstore hx hb hd h3.has hi rfl (fun ls1 q => kk H locs ls1 h1 h2 (h3.setL hi hp hl ls1 q))
theorem r_slen (hC : Cx E X l0 own code maxL rm) (hd : decode code pc = .ok (.arraylength, 1)) (kk : WW E X h k n (pc + 1) lo (.int (nI (sL E)) :: st)) : WW E X h k n pc lo (rv (sb E) :: st) := by
  obtain ⟨p, l, e, R, s, m, args, below, meth, c, Q⟩ := X
  obtain ⟨hx, hb, hml, hown, hts, hKw, hlk, hR, hl0⟩ := hC
  obtain ⟨⟨scr, g1, g2, g3, g4, g5⟩, gb⟩ := hKw.2.2.2.2
  intro H locs ls h1 h2 h3
  exact W.alen (n := Int32.ofNat (sL E)) hx hb (by rw [h1.2.2.1 _ gb]; exact g1) g2 (by rw [g4] <;> rfl) rfl rfl hd (kk H locs ls h1 h2 h3)
theorem r_sld {i : Int32} (hC : Cx E X l0 own code maxL rm) (hd : decode code pc = .ok (.iaload, 1)) (hin : vp_in i (sL E)) (kk : WW E X h k n (pc + 1) lo (.int (sX E (ix i)) :: st)) : WW E X h k n pc lo (.int i :: rv (sb E) :: st) := by
  obtain ⟨p, l, e, R, s, m, args, below, meth, c, Q⟩ := X
  obtain ⟨hx, hb, hml, hown, hts, hKw, hlk, hR, hl0⟩ := hC
  obtain ⟨⟨scr, g1, g2, g3, g4, g5⟩, gb⟩ := hKw.2.2.2.2
  intro H locs ls h1 h2 h3
  have hlt : i.toNatClampNeg < sL E := Nat.not_le.mp fun q => hin (Or.inr q)
  exact W.iald (v := .int (sX E (ix i))) hx hb (by rw [h1.2.2.1 _ gb]; exact g1) g2 g3 (by rw [g4]; exact hin) (g5 _ hlt) rfl rfl hd (kk H locs ls h1 h2 h3)
theorem r_z0 (kk : hK h 0 = 0 → WW E X h k n pc lo st) : WW E X h k n pc lo st := by
  obtain ⟨p, l, e, R, s, m, args, below, meth, c, Q⟩ := X
  intro H locs ls h1 h2 h3
  exact kk h1.1 H locs ls h1 h2 h3
end ROWS
