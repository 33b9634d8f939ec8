section CALLROWS
variable {E : Ev} {X : Xt} {l0 : Launch} {own : String} {code : ByteArray} {maxL : Nat} {rm : Room} {h : Hp} {k n pc : Nat} {lo : List (Option Value)} {st : List Value}
/-- what the tables say of a method, for its callers -/
def CF (y : MethodName) (bytes : ByteArray) (mL : Nat) (ret : Option FieldType) (nA : Nat) : Prop := Cond.code y bytes mL ret ∈ lwG ∧ Cond.initialized y.cls ∈ lwG ∧ y.cls ≠ "java/lang/invoke/MethodHandle" ∧ y.cls ≠ "java/lang/invoke/VarHandle" ∧ (parseMethodDescriptor y.desc).map (fun d => d.parameters.length) = some nA
theorem lw_goodIn {y z : MethodName} {bytes bz : ByteArray} {mL mz : Nat} {ret rz : Option FieldType} (hc : Cond.code y bytes mL ret ∈ lwG) : GoodIn lwG (.code y bytes mL ret :: lwG) := by
  intro w hw
  rcases List.mem_cons.mp hw with rfl | hw
  · exact ⟨hc, good_of_word (lwG_good _ hc)⟩
  · exact ⟨hw, good_of_word (lwG_good _ hw)⟩
theorem RU.blind (As : List Value) (h : Hp) : FrameBlind (va_Pc As (RU E h)) := fun a U g mk q => ⟨q.1, q.2.1, va_K.moved (u := U) (U := U.calling g mk a) (Vm.Alike.refl U.vm) q.2.2.1, fun z hz => va_Nw.same rfl rfl (q.2.2.2.1 z hz), q.2.2.2.2.1, q.2.2.2.2.2.1, va_X.moved (u := U) (U := U.calling g mk a) (Vm.Alike.refl U.vm) q.2.2.2.2.2.2.1, q.2.2.2.2.2.2.2⟩
/-- behind a call -/
theorem behind {p : Program} {l : Launch} {e : Env} {R : Room} {s : State} {m : MethodId} {args : Array Value} {below : List Frame} {meth : Method} {c : Code} {H : Heap} {locs : List Loc} {cells slots mc ms : Nat} {Q : State → Prop} {ls : Array Slot} {st0 rest : List Value} {KK : Option Value → Hp → Prop}
    (hr : va_Run p l e R s m args below meth c H locs cells slots mc ms (F0 m pc ls st0) rest (fun _ o t => ∃ v h1, o = .returned v ∧ Rep E h1 t.heap ∧ KK v h1) (fun q => E.2.2.1 ≤ q)) (h2 : ∀ q ∈ locs, E.2.2.1 ≤ q.base) (h3 : LR ls lo)
    (kk : ∀ v h1, KK v h1 → WW E (p, l, e, R, s, m, args, below, meth, c, Q) h1 (cells + mc) (slots + ms) (pc + 3) lo (v.toList ++ rest)) : W p l e R s m args below meth c H locs cells slots Q (F0 m pc ls st0) := by
  intro T hT X
  obtain ⟨v, st₀, t, T', L, h0, X', hL, e1, e2, ⟨v', h1, hv, hR, hK⟩, st⟩ := hr T hT X
  cases hv
  obtain ⟨t2, a1, b1⟩ := kk v h1 hK T'.heap (locs ++ L) ls (by rw [e1]; exact hR) (fun q hq => by
    rcases List.mem_append.mp hq with w | w
    · exact h2 q w
    · exact hL q w) h3 T' rfl X'
  exact ⟨t2, st t2 a1, b1⟩
/-- the room that a call asks of its caller -/
def RM (rm rmc : Room) (k n mL : Nat) : Prop := rmc.frames + 1 ≤ rm.frames ∧ 8 + (mL + 11) + rmc.locals ≤ rm.locals ∧ k + rmc.cells ≤ rm.cells ∧ n + rmc.slots ≤ rm.slots
/-- what a method's answer is for its caller -/
def KI (K : Int32 → Hp → Prop) : Option Value → Hp → Prop := fun v h1 => ∃ r, v = some (.int r) ∧ K r h1
def KJ (K : Int64 → Hp → Prop) : Option Value → Hp → Prop := fun v h1 => ∃ r, v = some (.long r) ∧ K r h1
def KR (K : Nat → Hp → Prop) : Option Value → Hp → Prop := fun v h1 => ∃ r, v = some (rv r) ∧ K r h1
def KV (K : Hp → Prop) : Option Value → Hp → Prop := fun v h1 => v = none ∧ K h1
theorem kI {K : Int32 → Hp → Prop} (kk : ∀ r h1, K r h1 → WW E X h1 k n pc lo (.int r :: st)) : ∀ v h1, KI K v h1 → WW E X h1 k n pc lo (v.toList ++ st) := by
  rintro v h1 ⟨r, rfl, hK⟩
  exact kk r h1 hK
theorem kJ {K : Int64 → Hp → Prop} (kk : ∀ r h1, K r h1 → WW E X h1 k n pc lo (.long r :: st)) : ∀ v h1, KJ K v h1 → WW E X h1 k n pc lo (v.toList ++ st) := by
  rintro v h1 ⟨r, rfl, hK⟩
  exact kk r h1 hK
theorem kR {K : Nat → Hp → Prop} (kk : ∀ r h1, K r h1 → WW E X h1 k n pc lo (rv r :: st)) : ∀ v h1, KR K v h1 → WW E X h1 k n pc lo (v.toList ++ st) := by
  rintro v h1 ⟨r, rfl, hK⟩
  exact kk r h1 hK
theorem kV {K : Hp → Prop} (kk : ∀ h1, K h1 → WW E X h1 k n pc lo st) : ∀ v h1, KV K v h1 → WW E X h1 k n pc lo (v.toList ++ st) := by
  rintro v h1 ⟨rfl, hK⟩
  exact kk h1 hK
theorem nmH {h0 : Hp} (kk : ∀ h1, h1 = h0 → WW E X h1 k n pc lo st) : WW E X h0 k n pc lo st := kk _ rfl
theorem r_callV {index ci : Nat} {c : Nat} {y : MethodName} {bytes : ByteArray} {mL nA : Nat} {ret : Option FieldType} {rmc : Room} {As : List Value} {r : vw_C} {KK : Option Value → Hp → Prop}
    {stk : List Value} {w : Nat} (hC : Cx E X l0 own code maxL rm) (hd : decode code pc = .ok (.invokevirtual index, 3)) (hlen : lo.length = maxL) (hF : CF y bytes mL ret nA) (hl : Cond.methodLink own index y ∈ lwG) (hi : Cond.instanceMethod y ∈ lwG) (hs : Cond.selects y.cls y y ∈ lwG)
    (hci : ci < 19) (hr : cls[ci]? = some r) (hry : r.1 = y.cls) (hk : hK h c = ci + 1) (hA : As.length = nA) (hrm : RM rm rmc k n mL) (hcs : cs st w) (hw : w ≤ 8) (hcon : Con E l0 y bytes mL ret rmc (rv c :: As) h KK)
    (hst : As.reverse ++ rv c :: st = stk) (kk : ∀ v h1, KK v h1 → WW E X h1 (k + rmc.cells) (n + rmc.slots) (pc + 3) lo (v.toList ++ st)) : WW E X h k n pc lo stk := by
  subst hst
  obtain ⟨p, l, e, R, s, m, args, below, meth, cd, Q⟩ := X
  obtain ⟨hx, hb, hml, hown, hts, hKw, hlk, hR0, hl0⟩ := hC
  intro H locs ls h1 h2 h3
  subst hR0; subst hl0
  obtain ⟨g1, g2, g3, g4, g5⟩ := hF
  obtain ⟨b, cell, rfl, q1, q2, q3, q4⟩ := h1.cell hKw hk hci hr
  refine behind (va_runV (As := As) (rest := st) ⟨hx, hb, hml, hown, hts⟩ hcon ⟨callB_of nA hts (lw_goodIn (y := y) (z := y) (bz := bytes) (mz := 0) (rz := none) g1) rfl rfl rfl (hts _ g2) (hts _ hl) ⟨g3, g4, g5⟩ ⟨hrm.1, hrm.2.1⟩, hts _ hi, hts _ hs⟩ ⟨RU.blind _ _, ⟨cell, q1, by rw [q2]; rfl, by rw [q3, ← hry]; exact q4.1⟩, fun U hU hW => ⟨rfl, by rw [hU]; exact h1, hKw.warm hW⟩⟩ rfl hA (by rw [h3.1, hlen]) rfl (lv_room (by rw [hcs]; exact hw)) hd ⟨hrm.2.2.1, hrm.2.2.2⟩) h2 h3 kk
theorem r_callS {index : Nat} {y : MethodName} {bytes : ByteArray} {mL nA : Nat} {ret : Option FieldType} {rmc : Room} {As : List Value} {KK : Option Value → Hp → Prop}
    {stk : List Value} {w : Nat} (hC : Cx E X l0 own code maxL rm) (hd : decode code pc = .ok (.invokestatic index, 3)) (hlen : lo.length = maxL) (hF : CF y bytes mL ret nA) (hl : Cond.methodLink own index y ∈ lwG) (hi : Cond.static y ∈ lwG)
    (hA : As.length = nA) (hrm : RM rm rmc k n mL) (hcs : cs st w) (hw : w ≤ 8) (hcon : Con E l0 y bytes mL ret rmc As h KK)
    (hst : As.reverse ++ st = stk) (kk : ∀ v h1, KK v h1 → WW E X h1 (k + rmc.cells) (n + rmc.slots) (pc + 3) lo (v.toList ++ st)) : WW E X h k n pc lo stk := by
  subst hst
  obtain ⟨p, l, e, R, s, m, args, below, meth, cd, Q⟩ := X
  obtain ⟨hx, hb, hml, hown, hts, hKw, hlk, hR0, hl0⟩ := hC
  intro H locs ls h1 h2 h3
  subst hR0; subst hl0
  obtain ⟨g1, g2, g3, g4, g5⟩ := hF
  refine behind (va_runS (As := As) (rest := st) ⟨hx, hb, hml, hown, hts⟩ hcon ⟨callB_of nA hts (lw_goodIn (y := y) (z := y) (bz := bytes) (mz := 0) (rz := none) g1) rfl rfl rfl (hts _ g2) (hts _ hl) ⟨g3, g4, g5⟩ ⟨hrm.1, hrm.2.1⟩, hts _ hi⟩ ⟨RU.blind _ _, fun U hU hW => ⟨rfl, by rw [hU]; exact h1, hKw.warm hW⟩⟩ rfl hA (by rw [h3.1, hlen]) rfl (lv_room (by rw [hcs]; exact hw)) hd ⟨hrm.2.2.1, hrm.2.2.2⟩) h2 h3 kk
theorem r_callI {index : Nat} {c : Nat} {y : MethodName} {bytes : ByteArray} {mL nA : Nat} {rmc : Room} {As : List Value} {KK : Option Value → Hp → Prop}
    {stk : List Value} {w : Nat} (hC : Cx E X l0 own code maxL rm) (hd : decode code pc = .ok (.invokespecial index, 3)) (hlen : lo.length = maxL) (hF : CF y bytes mL none nA) (hl : Cond.methodLink own index y ∈ lwG) (hy : y.name = "<init>") (hi : Cond.instanceMethod y ∈ lwG)
    (hc0 : c ≠ 0) (hA : As.length = nA) (hrm : RM rm rmc k n mL) (hcs : cs st w) (hw : w ≤ 8) (hcon : Con E l0 y bytes mL none rmc (rv c :: As) h KK)
    (hst : As.reverse ++ rv c :: st = stk) (kk : ∀ v h1, KK v h1 → WW E X h1 (k + rmc.cells) (n + rmc.slots) (pc + 3) lo (v.toList ++ st)) : WW E X h k n pc lo stk := by
  subst hst
  obtain ⟨p, l, e, R, s, m, args, below, meth, cd, Q⟩ := X
  obtain ⟨hx, hb, hml, hown, hts, hKw, hlk, hR0, hl0⟩ := hC
  intro H locs ls h1 h2 h3
  subst hR0; subst hl0
  obtain ⟨g1, g2, g3, g4, g5⟩ := hF
  obtain ⟨b, rfl⟩ : ∃ b, c = b + 1 := ⟨c - 1, by omega⟩
  refine behind (va_runI (As := As) (rest := st) (b := b) ⟨hx, hb, hml, hown, hts⟩ hcon ⟨callB_of nA hts (lw_goodIn (y := y) (z := y) (bz := bytes) (mz := 0) (rz := none) g1) rfl rfl rfl (hts _ g2) (hts _ hl) ⟨g3, g4, g5⟩ ⟨hrm.1, hrm.2.1⟩, hy, hts _ hi⟩ ⟨RU.blind _ _, fun U hU hW => ⟨rfl, by rw [hU]; exact h1, hKw.warm hW⟩⟩ rfl hA (by rw [h3.1, hlen]) rfl (lv_room (by rw [hcs]; exact hw)) hd ⟨hrm.2.2.1, hrm.2.2.2⟩) h2 h3 kk
theorem nest_CN {p : Program} {R : Room} {s : State} {args : Array Value} {index : Nat} {y : MethodName} {host : String} {bytes : ByteArray} {mL nA : Nat} {ret : Option FieldType} {rmc : Room} (hts : ∀ w ∈ lwG, w.before args s = true) (hKw : Kw E s) (hF : CF y bytes mL ret nA) (hl : (own, index, y, host) ∈ nestT) (hR : rmc.frames + 1 ≤ R.frames ∧ 8 + (mL + 11) + rmc.locals ≤ R.locals) :
    va_CN R s args own index y host bytes mL ret (.code y bytes mL ret :: lwG) rmc rmc.cells rmc.slots nA := by
  obtain ⟨g1, g2, g3, g4, g5⟩ := hF
  exact va_cnB nA hts (lw_goodIn (y := y) (z := y) (bz := bytes) (mz := 0) (rz := none) g1) rfl rfl rfl (hKw.2.1 _ hl) (hts _ g2) ⟨g3, g4, g5⟩ hR
theorem r_callSN {index : Nat} {y : MethodName} {host : String} {bytes : ByteArray} {mL nA : Nat} {ret : Option FieldType} {rmc : Room} {As : List Value} {KK : Option Value → Hp → Prop}
    {stk : List Value} {w : Nat} (hC : Cx E X l0 own code maxL rm) (hd : decode code pc = .ok (.invokestatic index, 3)) (hlen : lo.length = maxL) (hF : CF y bytes mL ret nA) (hl : (own, index, y, host) ∈ nestT) (hi : Cond.static y ∈ lwG)
    (hA : As.length = nA) (hrm : RM rm rmc k n mL) (hcs : cs st w) (hw : w ≤ 8) (hcon : Con E l0 y bytes mL ret rmc As h KK)
    (hst : As.reverse ++ st = stk) (kk : ∀ v h1, KK v h1 → WW E X h1 (k + rmc.cells) (n + rmc.slots) (pc + 3) lo (v.toList ++ st)) : WW E X h k n pc lo stk := by
  subst hst
  obtain ⟨p, l, e, R, s, m, args, below, meth, cd, Q⟩ := X
  obtain ⟨hx, hb, hml, hown, hts, hKw, hlk, hR0, hl0⟩ := hC
  intro H locs ls h1 h2 h3
  subst hR0; subst hl0
  refine behind (va_runSN (As := As) (rest := st) ⟨hx, hb, hml, hown, hts⟩ hcon ⟨nest_CN (p := p) hts hKw hF hl ⟨hrm.1, hrm.2.1⟩, hts _ hi, trivial⟩ ⟨RU.blind _ _, fun U hU hW => ⟨rfl, by rw [hU]; exact h1, hKw.warm hW⟩⟩ rfl hA (by rw [h3.1, hlen]) rfl (lv_room (by rw [hcs]; exact hw)) hd ⟨hrm.2.2.1, hrm.2.2.2⟩) h2 h3 kk
theorem r_callIN {index : Nat} {c : Nat} {y : MethodName} {host : String} {bytes : ByteArray} {mL nA : Nat} {rmc : Room} {As : List Value} {KK : Option Value → Hp → Prop}
    {stk : List Value} {w : Nat} (hC : Cx E X l0 own code maxL rm) (hd : decode code pc = .ok (.invokespecial index, 3)) (hlen : lo.length = maxL) (hF : CF y bytes mL none nA) (hl : (own, index, y, host) ∈ nestT) (hy : y.name = "<init>") (hi : Cond.instanceMethod y ∈ lwG)
    (hc0 : c ≠ 0) (hA : As.length = nA) (hrm : RM rm rmc k n mL) (hcs : cs st w) (hw : w ≤ 8) (hcon : Con E l0 y bytes mL none rmc (rv c :: As) h KK)
    (hst : As.reverse ++ rv c :: st = stk) (kk : ∀ v h1, KK v h1 → WW E X h1 (k + rmc.cells) (n + rmc.slots) (pc + 3) lo (v.toList ++ st)) : WW E X h k n pc lo stk := by
  subst hst
  obtain ⟨p, l, e, R, s, m, args, below, meth, cd, Q⟩ := X
  obtain ⟨hx, hb, hml, hown, hts, hKw, hlk, hR0, hl0⟩ := hC
  intro H locs ls h1 h2 h3
  subst hR0; subst hl0
  obtain ⟨b, rfl⟩ : ∃ b, c = b + 1 := ⟨c - 1, by omega⟩
  refine behind (va_runIN (As := As) (rest := st) (b := b) ⟨hx, hb, hml, hown, hts⟩ hcon ⟨nest_CN (p := p) hts hKw hF hl ⟨hrm.1, hrm.2.1⟩, hy, hts _ hi⟩ ⟨RU.blind _ _, fun U hU hW => ⟨rfl, by rw [hU]; exact h1, hKw.warm hW⟩⟩ rfl hA (by rw [h3.1, hlen]) rfl (lv_room (by rw [hcs]; exact hw)) hd ⟨hrm.2.2.1, hrm.2.2.2⟩) h2 h3 kk
theorem r_obj {index : Nat} {c w : Nat} (hC : Cx E X l0 own code maxL rm) (hd : decode code pc = .ok (.invokespecial index, 3)) (hlen : lo.length = maxL) (hl : Cond.methodLink own index Lib.objectInit ∈ lwG) (hi : Cond.instanceMethod Lib.objectInit ∈ lwG) (hc : Cond.code Lib.objectInit ⟨#[0xb1]⟩ 1 none ∈ lwG) (hc0 : c ≠ 0)
    (hcs : cs st w) (hrm : 1 ≤ rm.frames ∧ w + 12 ≤ rm.locals) (kk : WW E X h k n (pc + 3) lo st) : WW E X h k n pc lo (rv c :: st) := by
  obtain ⟨p, l, e, R, s, m, args, below, meth, cd, Q⟩ := X
  obtain ⟨hx, hb, hml, hown, hts, hKw, hlk, hR0, hl0⟩ := hC
  intro H locs ls h1 h2 h3
  subst hR0
  obtain ⟨b, rfl⟩ : ∃ b, c = b + 1 := ⟨c - 1, by omega⟩
  exact W.objInit hx hb hown (hts _ hl) (hts _ hi) (hts _ hc) rfl (by show ls.size = _; rw [hml, h3.1, hlen]) rfl hd hrm.1 (by have := hrm.2; show 2 * 0 + (st.map fun v => v.category).sum + 12 ≤ _; rw [hcs]; omega) (kk H locs ls h1 h2 h3)
/-! returns -/
theorem r_iret {nm : String} {KK : Option Value → Hp → Prop} {v : Int32} (hC : Cx E X l0 own code maxL rm) (hQ : CQ E X nm (some .int) rm KK) (hd : decode code pc = .ok (.ireturn, 1)) (hk : k ≤ rm.cells) (hn : n ≤ rm.slots) (hv : KK (some (.int v)) h) : WW E X h k n pc lo [.int v] := by
  obtain ⟨p, l, e, R, s, m, args, below, meth, cd, Q⟩ := X
  obtain ⟨hx, hb, hml, hown, hts, hKw, hlk, hR0, hl0⟩ := hC
  obtain ⟨hr, -, hQ⟩ := hQ
  intro H locs ls h1 h2 h3
  subst hQ
  exact W.widen hk hn (W.iret hx hb hr (fun t ht hW => ⟨_, h, rfl, by rw [ht]; exact h1, hv⟩) h2 hd)
theorem r_jret {nm : String} {KK : Option Value → Hp → Prop} {v : Int64} (hC : Cx E X l0 own code maxL rm) (hQ : CQ E X nm (some .long) rm KK) (hd : decode code pc = .ok (.lreturn, 1)) (hk : k ≤ rm.cells) (hn : n ≤ rm.slots) (hv : KK (some (.long v)) h) : WW E X h k n pc lo [.long v] := by
  obtain ⟨p, l, e, R, s, m, args, below, meth, cd, Q⟩ := X
  obtain ⟨hx, hb, hml, hown, hts, hKw, hlk, hR0, hl0⟩ := hC
  obtain ⟨hr, -, hQ⟩ := hQ
  intro H locs ls h1 h2 h3
  subst hQ
  exact W.widen hk hn (W.lret hx hb hr (fun t ht hW => ⟨_, h, rfl, by rw [ht]; exact h1, hv⟩) h2 hd)
theorem r_zret {nm : String} {KK : Option Value → Hp → Prop} {v : Int32} (hC : Cx E X l0 own code maxL rm) (hQ : CQ E X nm (some .boolean) rm KK) (hd : decode code pc = .ok (.ireturn, 1)) (hk : k ≤ rm.cells) (hn : n ≤ rm.slots) (h01 : v = 0 ∨ v = 1) (hv : KK (some (.int v)) h) : WW E X h k n pc lo [.int v] := by
  obtain ⟨p, l, e, R, s, m, args, below, meth, cd, Q⟩ := X
  obtain ⟨hx, hb, hml, hown, hts, hKw, hlk, hR0, hl0⟩ := hC
  obtain ⟨hr, -, hQ⟩ := hQ
  intro H locs ls h1 h2 h3
  subst hQ
  exact W.widen hk hn (W.zret hx hb hr (by rcases h01 with rfl | rfl <;> rfl) (fun t ht hW => ⟨_, h, rfl, by rw [ht]; exact h1, hv⟩) h2 hd)
theorem r_cret {nm : String} {KK : Option Value → Hp → Prop} {v : Int32} (hC : Cx E X l0 own code maxL rm) (hQ : CQ E X nm (some .char) rm KK) (hd : decode code pc = .ok (.ireturn, 1)) (hk : k ≤ rm.cells) (hn : n ≤ rm.slots) (hcn : cn v = v) (hv : KK (some (.int v)) h) : WW E X h k n pc lo [.int v] := by
  obtain ⟨p, l, e, R, s, m, args, below, meth, cd, Q⟩ := X
  obtain ⟨hx, hb, hml, hown, hts, hKw, hlk, hR0, hl0⟩ := hC
  obtain ⟨hr, -, hQ⟩ := hQ
  intro H locs ls h1 h2 h3
  subst hQ
  exact W.widen hk hn (W.zret hx hb hr (by rw [← hcn]; exact pk_nc v) (fun t ht hW => ⟨_, h, rfl, by rw [ht]; exact h1, hv⟩) h2 hd)
theorem r_vret {nm : String} {KK : Option Value → Hp → Prop} (hC : Cx E X l0 own code maxL rm) (hQ : CQ E X nm none rm KK) (hd : decode code pc = .ok (.return_, 1)) (hk : k ≤ rm.cells) (hn : n ≤ rm.slots) (hv : KK none h) : WW E X h k n pc lo [] := by
  obtain ⟨p, l, e, R, s, m, args, below, meth, cd, Q⟩ := X
  obtain ⟨hx, hb, hml, hown, hts, hKw, hlk, hR0, hl0⟩ := hC
  obtain ⟨hr, -, hQ⟩ := hQ
  intro H locs ls h1 h2 h3
  subst hQ
  exact W.widen hk hn (W.vret hx hb hr (fun t ht hW => ⟨_, h, rfl, by rw [ht]; exact h1, hv⟩) h2 hd)
theorem r_aret {nm : String} {KK : Option Value → Hp → Prop} {v : Nat} {rt : FieldType} (hC : Cx E X l0 own code maxL rm) (hQ : CQ E X nm (some rt) rm KK) (hrt : (∃ n, rt = .object n) ∨ ∃ t, rt = .array t) (hd : decode code pc = .ok (.areturn, 1)) (hk : k ≤ rm.cells) (hn : n ≤ rm.slots) (hv : KK (some (rv v)) h) : WW E X h k n pc lo [rv v] := by
  obtain ⟨p, l, e, R, s, m, args, below, meth, cd, Q⟩ := X
  obtain ⟨hx, hb, hml, hown, hts, hKw, hlk, hR0, hl0⟩ := hC
  obtain ⟨hr, -, hQ⟩ := hQ
  intro H locs ls h1 h2 h3
  subst hQ
  exact W.widen hk hn (W.aret hx hb hr hrt (rv_or v) (fun t ht hW => ⟨_, h, rfl, by rw [ht]; exact h1, hv⟩) h2 hd)
/-- the locals at a method's entry -/
def ent (As : List Value) (maxL : Nat) : List (Option Value) := As.map some ++ List.replicate (maxL - As.length) none
theorem lv_args_mem : ∀ (As : List Value) (i j : Nat) (v : Value), (∀ v ∈ As, v.category = 1) → As[j]? = some v → (i + j, v) ∈ lv_args i As
  | [], _, j, v, _, h => by simp at h
  | a :: As, i, 0, v, _, h => by cases h; exact List.mem_cons_self
  | a :: As, i, j + 1, v, hc, h => by
    have ha : ¬ a.category = 2 := by rw [hc a List.mem_cons_self]; decide
    unfold lv_args
    rw [if_neg ha]
    rw [List.getElem?_cons_succ] at h
    have := lv_args_mem As (i + 1) j v (fun v hv => hc v (List.mem_cons_of_mem _ hv)) h
    rw [show i + 1 + j = i + (j + 1) by omega] at this
    exact List.mem_cons_of_mem _ this
theorem lg_len (As : List Value) (hc : ∀ v ∈ As, v.category = 1) : (lg_sl As).length = As.length := by
  induction As with
  | nil => rfl
  | cons a t ih =>
    have ha : ¬ a.category = 2 := by rw [hc a List.mem_cons_self]; decide
    have := ih (fun v hv => hc v (List.mem_cons_of_mem _ hv))
    unfold lg_sl at this ⊢
    rw [List.flatMap_cons, if_neg ha]
    simp only [List.length_append, List.length_cons, List.length_nil, this]
    omega
theorem ent_LR (As : List Value) (maxL : Nat) (hc : ∀ v ∈ As, v.category = 1) (hl : As.length ≤ maxL) : LR ((lg_sl As ++ List.replicate (maxL - (lg_sl As).length) Slot.unset).toArray) (ent As maxL) := by
  have h0 := lv_entry As (n := maxL) (by rw [lg_len As hc]; exact hl)
  refine ⟨?_, h0.2.1, fun i v hv => ?_⟩
  · rw [h0.1]; unfold ent; simp; omega
  · unfold ent at hv
    by_cases hi : i < As.length
    · rw [List.getElem?_append_left (by simpa using hi), List.getElem?_map] at hv
      cases hj : As[i]? with
      | none => rw [hj] at hv; cases hv
      | some w =>
        rw [hj] at hv
        cases hv
        have := lv_args_mem As 0 i v hc hj
        rw [Nat.zero_add] at this
        exact h0.2.2 _ this
    · rw [List.getElem?_append_right (by simpa using Nat.le_of_not_lt hi), List.getElem?_replicate] at hv
      split at hv <;> cases hv
theorem Con.of {y : MethodName} {bytes : ByteArray} {ret : Option FieldType} {As : List Value} {KK : Option Value → Hp → Prop} (hy : plainName y.cls = true) (hc : ∀ v ∈ As, v.category = 1) (hl : As.length ≤ maxL)
    (body : ∀ X : Xt, Cx E X l0 y.cls bytes maxL rm → CQ E X y.name ret rm KK → WW E X h 0 0 0 (ent As maxL) []) : Con E l0 y bytes maxL ret rm As h KK := by
  refine Met.ofW (cc := bytes) (maxL := maxL) (ret := ret) hy rfl ?_
  intro p e s m args below meth c s₁ B hml hv
  obtain ⟨rfl, hR, hKw⟩ := hv
  have hts := atoms_spec (ws := .code y bytes maxL ret :: lwG) B.pre
  have := body (p, l0, e, (headSpec (.code y bytes maxL ret :: lwG) rm).room, s, m, As.toArray, below, meth, c, _) ⟨B.exec, B.bytes, hml, findClass_of_methodNamed B.named, fun w hw => hts w (List.mem_cons_of_mem _ hw), hKw, B.notSynchronized, rfl, rfl⟩ ⟨B.returns, (name_of_methodNamed B.named B.method).1, rfl⟩
  rw [lg_entry_eq]
  exact this s.heap [] _ hR (fun q hq => by cases hq) (ent_LR As maxL hc hl)
end CALLROWS
