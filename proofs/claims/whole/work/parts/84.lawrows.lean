/-! THE CLAIM OUT OF ONE WALK OF THE LAW'S BODY. Your part is whole_start (and what it stands on); all else here is the same for every law, but numbers. -/
def R_law : String := "TypeWorkshopLaw"
def lw_P (b : Addr) (xs : List Int32) (args : Array Value) (s : State) : Prop := args = #[.ref b] ∧ s.IntsAt b xs ∧ xs.length ≤ 2048 ∧ (Jvm.Cond.and given_1 narrow_1).before args s = true
def lw_Q (_ : Array Value) (s : State) (o : Outcome) (t : State) : Prop := o = .returned (some (.int 1)) ∧ Framed s o t [] 600000 7302250
def lw_Z (below : List Frame) (a : Array Value) (s : State) : State → Prop := fun t => ∃ o, t.status = .running ∧ Ended t below o ∧ lw_Q a s o t
/-- the law's own end, with 1 on the stack, nothing written that was there before, its room as the claim has it -/
theorem lw_ret {p : Program} {l : Launch} {e : Env} {s : State} {m : MethodId} {below : List Frame} {meth : Method} {c : Code} {b : Nat} (hx : p.tables.exec = Jvm.exec) (hb : c.code = code) (hr : meth.sig.returnType = ret) (hlocks : meth.locks = false) {pc : Nat} {H : Heap} {ls : Array Slot} (hdg : decode code pc = .ok (.ireturn, 1)) : W p l e room_1 s m #[Value.ref b] below meth c H [] 600000 7302250 (lw_Z below #[Value.ref b] s) (F0 m pc ls [.int 1]) := by
  intro T hT X
  obtain ⟨fs, hret, hrun, hended, hW, hframe⟩ := X.leave (v := some (.int 1)) (hlocks := hlocks) (fun h => by rw [hr] at h; cases h)
  have hmeth' : T.vm.method? m = some meth := X.method'
  refine ⟨T.setFrames fs, ?_, .returned (some (.int 1)), hrun, hended, rfl, ⟨_, rfl⟩, hW, hframe⟩
  jvm_step X.here [X.here.top, hx, hb, hdg, hmeth', hr, ret, narrow_b1]
  (try refine ⟨rfl, ?_⟩); (try refine ⟨rfl, ?_⟩)
  first | (intro acts; rw [hret _ acts rfl rfl rfl]) | rw [hret _ _ rfl rfl rfl]
  exact Steps.refl _
/-- what holds at the law's entry: the machine, the code, the tables' words (any of lw_tbl by 'hts w (by decide +kernel)'), the script of L ints xs at the cell b, what the Statement gives of the start (any of its parts by flat_of_before) -/
def lw_At (p : Program) (s : State) (m : MethodId) (meth : Method) (c : Code) (b L : Nat) (xs : Nat → Int32) : Prop :=
  p.tables.exec = Jvm.exec ∧ c.code = code ∧ meth.sig.returnType = ret ∧ c.maxLocals = 4 ∧ s.vm.findClass R_law = some m.cls ∧ (∀ w ∈ lw_tbl, w.before #[Value.ref b] s = true) ∧ va_X b L xs s s.heap ∧ b < s.heap.size ∧ meth.locks = false ∧ (Jvm.Cond.and given_1 narrow_1).before #[Value.ref b] s = true
/-! rows of the law: its script, its end -/
def SX (E : Ev) (X : Xt) (b L : Nat) (xs : Nat → Int32) : Prop := match X with
  | (_, _, _, _, s, _, _, _, _, _, _) => va_X b L xs s E.2.2.2 ∧ b < E.2.2.1
def LQ (E : Ev) (X : Xt) (b : Nat) : Prop := match X with
  | (_, _, _, R, s, _, args, below, meth, _, Q) => R = room_1 ∧ args = #[.ref b] ∧ Q = lw_Z below #[.ref b] s ∧ meth.sig.returnType = ret ∧ E.2.2.1 = s.heap.size
section LAWROWS
variable {E : Ev} {X : Xt} {l0 : Launch} {own : String} {cc : ByteArray} {maxL : Nat} {rm : Room} {h : Hp} {k n pc b L : Nat} {xs : Nat → Int32} {lo : List (Option Value)} {st : List Value}
theorem r_slen (hC : Cx E X l0 own cc maxL rm) (hS : SX E X b L xs) (hd : decode cc pc = .ok (.arraylength, 1)) (kk : WW E X h k n (pc + 1) lo (.int (nI L) :: st)) : WW E X h k n pc lo (rv (b + 1) :: st) := by
  obtain ⟨p, l, e, R, s, m, args, below, meth, c, Q⟩ := X
  obtain ⟨hx, hb, hml, hown, hts, hKw, hlk, hR, hl0⟩ := hC
  obtain ⟨⟨scr, g1, g2, g3, g4, g5⟩, gb⟩ := hS
  intro H locs ls h1 h2 h3
  exact W.alen (n := Int32.ofNat L) hx hb (by rw [h1.2.2.1 b gb]; exact g1) g2 (by rw [g4] <;> rfl) rfl rfl hd (kk H locs ls h1 h2 h3)
theorem r_sld {i : Int32} (hC : Cx E X l0 own cc maxL rm) (hS : SX E X b L xs) (hd : decode cc pc = .ok (.iaload, 1)) (hin : vp_in i L) (kk : WW E X h k n (pc + 1) lo (.int (xs (ix i)) :: st)) : WW E X h k n pc lo (.int i :: rv (b + 1) :: st) := by
  obtain ⟨p, l, e, R, s, m, args, below, meth, c, Q⟩ := X
  obtain ⟨hx, hb, hml, hown, hts, hKw, hlk, hR, hl0⟩ := hC
  obtain ⟨⟨scr, g1, g2, g3, g4, g5⟩, gb⟩ := hS
  intro H locs ls h1 h2 h3
  have hlt : i.toNatClampNeg < L := Nat.not_le.mp fun q => hin (Or.inr q)
  exact W.iald (v := .int (xs (ix i))) hx hb (by rw [h1.2.2.1 b gb]; exact g1) g2 g3 (by rw [g4]; exact hin) (g5 _ hlt) rfl rfl hd (kk H locs ls h1 h2 h3)
theorem r_z0 (kk : hK h 0 = 0 → WW E X h k n pc lo st) : WW E X h k n pc lo st := by
  obtain ⟨p, l, e, R, s, m, args, below, meth, c, Q⟩ := X
  intro H locs ls h1 h2 h3
  exact kk h1.1 H locs ls h1 h2 h3
theorem r_lawret (hC : Cx E X l0 own code maxL rm) (hQ : LQ E X b) (hd : decode code pc = .ok (.ireturn, 1)) (hk : k ≤ 600000) (hn : n ≤ 7302250) : WW E X h k n pc lo [.int 1] := by
  obtain ⟨p, l, e, R, s, m, args, below, meth, c, Q⟩ := X
  obtain ⟨hx, hb, hml, hown, hts, hKw, hlk, hR, hl0⟩ := hC
  obtain ⟨rfl, rfl, rfl, hr, hsz⟩ := hQ
  intro H locs ls h1 h2 h3
  refine va_forget (fun q hq => by rw [← hsz]; exact h2 q hq) ?_
  exact W.widen hk hn (lw_ret hx hb hr hlk hd)
end LAWROWS
theorem l_in {t L j : Nat} (h4 : 4 * t + 4 ≤ L) (hL : L ≤ 2048) (hj : j < 4) : vp_in (nI (4 * t) + nI j) L := by
  rw [nI_add]
  exact vin (by omega) (by omega)
theorem l_gt {t L : Nat} (hL : L ≤ 2048) (ht : t ≤ 513) : nI L - 4 < nI (4 * t) ↔ L < 4 * t + 4 := by
  rw [Int32.lt_iff_toInt_lt, show (4 : Int32) = nI 4 from rfl, pk_sub_toInt (by omega) (by decide), nI_toInt (by omega)]
  omega
theorem INV.mono {h : Hp} {x m t : Nat} (I : INV h x m t) : INV h x m (t + 1) := by
  obtain ⟨σ, k, M, C, W⟩ := I
  exact ⟨σ, k, M, C, W.idle (fun _ _ => rfl)⟩
theorem INV.kx {h : Hp} {x m t : Nat} (I : INV h x m t) : hK h x = 7 := by
  obtain ⟨σ, k, M, C, W⟩ := I
  exact C.n.1
