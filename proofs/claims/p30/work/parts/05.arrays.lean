/-- the words of a stack -/
def cs (st : List Value) (w : Nat) : Prop := (st.map fun v => v.category).sum = w
theorem cs0 : cs [] 0 := rfl
theorem csI {st : List Value} {w : Nat} {x : Int32} (h : cs st w) : cs (.int x :: st) (1 + w) := by unfold cs at h ⊢; rw [List.map_cons, List.sum_cons, h]; rfl
theorem csJ {st : List Value} {w : Nat} {x : Int64} (h : cs st w) : cs (.long x :: st) (2 + w) := by unfold cs at h ⊢; rw [List.map_cons, List.sum_cons, h]; rfl
theorem csR {st : List Value} {w c : Nat} (h : cs st w) : cs (rv c :: st) (1 + w) := by unfold cs at h ⊢; rw [List.map_cons, List.sum_cons, h, rv_cat]
section ARRROWS
variable {E : Ev} {X : Xt} {l0 : Launch} {own : String} {code : ByteArray} {maxL : Nat} {rm : Room} {h : Hp} {k n pc : Nat} {lo : List (Option Value)} {st : List Value}
theorem Rep.ar {h : Hp} {H : Heap} (x : Rep E h H) {c kd d : Nat} (hk : hK h c = kd) (h20 : 20 ≤ kd) (hd : acd kd = d) : ∃ a, c = a + 1 ∧ E.2.2.1 ≤ a ∧ H[a]? = some (arrV (E.2.1 d) (hL h c) (fun i => sv h c i (decide (2 ≤ d)))) := by
  have h0 : hK h c ≠ 0 := by omega
  obtain ⟨a, rfl⟩ := x.code h0
  obtain ⟨g1, g2⟩ := x.2.2.2 _ h0
  unfold cellOk at g2
  rw [hk, if_neg (by omega), hd] at g2
  exact ⟨a, rfl, g1, g2⟩
theorem arrPut {h1 : Hp} {H H1 : Heap} {a kd d j : Nat} {v : Value} (x : Rep E h H) (hk : hK h (a + 1) = kd) (h20 : 20 ≤ kd) (hd : acd kd = d)
    (e1 : H1[a]? = some ((arrV (E.2.1 d) (hL h (a + 1)) (fun i => sv h (a + 1) i (decide (2 ≤ d)))).setSlot j v)) (e2 : H1.size = H.size) (e3 : ∀ q : Nat, q ≠ a → H1[q]? = H[q]?)
    (k1 : ∀ c, hK h1 c = hK h c) (n1 : ∀ c, hL h1 c = hL h c) (i1 : ∀ c, c ≠ a + 1 → ∀ i, hI h1 c i = hI h c i) (r1 : ∀ c, c ≠ a + 1 → ∀ i, hR h1 c i = hR h c i) (s1 : ∀ i, sv h1 (a + 1) i (decide (2 ≤ d)) = if i = j then v else sv h (a + 1) i (decide (2 ≤ d))) : Rep E h1 H1 := by
  refine x.put (c := a + 1) (by omega) k1 n1 i1 r1 e2 (fun q hq => e3 q hq) ?_
  unfold cellOk
  rw [k1, hk, if_neg (by omega), hd, n1]
  show H1[a]? = _
  rw [e1, arrV_store]
  congr 2
  funext i
  rw [s1]
  rfl
theorem sv_ii (c j : Nat) (v : Int32) (i : Nat) : sv (sI h c j v) c i false = if i = j then .int v else sv h c i false := by
  unfold sv
  rw [hI_sI, hR_sI]
  by_cases e : i = j <;> simp [e]
theorem sv_rr (c j : Nat) (v : Nat) (i : Nat) : sv (sR h c j v) c i true = if i = j then rv v else sv h c i true := by
  unfold sv
  rw [hI_sR, hR_sR]
  by_cases e : i = j <;> simp [e]
theorem r_iald {c kd : Nat} {i : Int32} (hC : Cx E X l0 own code maxL rm) (hd : decode code pc = .ok (.iaload, 1)) (h20 : 20 ≤ kd) (ha : acd kd = 0) (hk : hK h c = kd) (hin : vp_in i (hL h c)) (kk : WW E X h k n (pc + 1) lo (.int (hI h c (ix i)) :: st)) : WW E X h k n pc lo (.int i :: rv c :: st) := by
  obtain ⟨p, l, e, R, s, m, args, below, meth, cd, Q⟩ := X
  obtain ⟨hx, hb, hml, hown, hts, hKw, hlk, hR, hl0⟩ := hC
  intro H locs ls h1 h2 h3
  obtain ⟨a, rfl, -, q⟩ := h1.ar hk h20 ha
  have hlt : i.toNatClampNeg < hL h (a + 1) := Nat.not_le.mp fun q => hin (Or.inr q)
  exact W.iald (v := .int (hI h (a + 1) (ix i))) hx hb q ((hKw.arr (d := 0) (by omega)).1 _ _) (fun q => by cases q) (by rw [arrV_size]; exact hin) (by rw [arrV_read _ _ hlt]; rfl) rfl rfl hd (kk H locs ls h1 h2 h3)
theorem r_cald {c kd : Nat} {i : Int32} (hC : Cx E X l0 own code maxL rm) (hd : decode code pc = .ok (.caload, 1)) (h20 : 20 ≤ kd) (ha : acd kd = 1) (hk : hK h c = kd) (hin : vp_in i (hL h c)) (kk : WW E X h k n (pc + 1) lo (.int (hI h c (ix i)) :: st)) : WW E X h k n pc lo (.int i :: rv c :: st) := by
  obtain ⟨p, l, e, R, s, m, args, below, meth, cd, Q⟩ := X
  obtain ⟨hx, hb, hml, hown, hts, hKw, hlk, hR, hl0⟩ := hC
  intro H locs ls h1 h2 h3
  obtain ⟨a, rfl, -, q⟩ := h1.ar hk h20 ha
  have hlt : i.toNatClampNeg < hL h (a + 1) := Nat.not_le.mp fun q => hin (Or.inr q)
  exact W.cald (v := .int (hI h (a + 1) (ix i))) hx hb q ((hKw.arr (d := 1) (by omega)).1 _ _) (fun q => by cases q) (by rw [arrV_size]; exact hin) (by rw [arrV_read _ _ hlt]; rfl) rfl rfl hd (kk H locs ls h1 h2 h3)
theorem r_aald {c kd d : Nat} {i : Int32} (hC : Cx E X l0 own code maxL rm) (hd : decode code pc = .ok (.aaload, 1)) (h20 : 20 ≤ kd) (ha : acd kd = d) (hd2 : 2 ≤ d) (hk : hK h c = kd) (hin : vp_in i (hL h c)) (kk : WW E X h k n (pc + 1) lo (rv (hR h c (ix i)) :: st)) : WW E X h k n pc lo (.int i :: rv c :: st) := by
  obtain ⟨p, l, e, R, s, m, args, below, meth, cd, Q⟩ := X
  obtain ⟨hx, hb, hml, hown, hts, hKw, hlk, hR0, hl0⟩ := hC
  intro H locs ls h1 h2 h3
  obtain ⟨a, rfl, -, q⟩ := h1.ar hk h20 ha
  have hd4 : d < 4 := by rw [← ha]; exact acd_lt _
  have hlt : i.toNatClampNeg < hL h (a + 1) := Nat.not_le.mp fun q => hin (Or.inr q)
  have hty : (aty d).isReference = true := by
    rcases (show d = 2 ∨ d = 3 by omega) with rfl | rfl <;> rfl
  refine W.aald (v := rv (hR h (a + 1) (ix i))) (ty := aty d) hx hb q ((hKw.arr hd4).1 _ _) hty (fun q => by cases q) (by rw [arrV_size]; exact hin) ?_ rfl rfl hd (kk H locs ls h1 h2 h3)
  rw [arrV_read _ _ hlt]
  unfold sv
  rw [if_pos (by simpa using hd2)]
  rfl
theorem r_alen {c kd : Nat} (hC : Cx E X l0 own code maxL rm) (hd : decode code pc = .ok (.arraylength, 1)) (h20 : 20 ≤ kd) (hk : hK h c = kd) (kk : WW E X h k n (pc + 1) lo (.int (nI (hL h c)) :: st)) : WW E X h k n pc lo (rv c :: st) := by
  obtain ⟨p, l, e, R, s, m, args, below, meth, cd, Q⟩ := X
  obtain ⟨hx, hb, hml, hown, hts, hKw, hlk, hR0, hl0⟩ := hC
  intro H locs ls h1 h2 h3
  obtain ⟨a, rfl, -, q⟩ := h1.ar hk h20 rfl
  exact W.alen (n := nI (hL h (a + 1))) hx hb q ((hKw.arr (acd_lt kd)).1 _ _) (by rw [arrV_size]; rfl) rfl rfl hd (kk H locs ls h1 h2 h3)
theorem r_iast {c kd : Nat} {i v : Int32} (hC : Cx E X l0 own code maxL rm) (hd : decode code pc = .ok (.iastore, 1)) (h20 : 20 ≤ kd) (ha : acd kd = 0) (hk : hK h c = kd) (hin : vp_in i (hL h c)) (kk : WW E X (sI h c (ix i) v) k n (pc + 1) lo st) : WW E X h k n pc lo (.int v :: .int i :: rv c :: st) := by
  obtain ⟨p, l, e, R, s, m, args, below, meth, cd, Q⟩ := X
  obtain ⟨hx, hb, hml, hown, hts, hKw, hlk, hR0, hl0⟩ := hC
  intro H locs ls h1 h2 h3
  obtain ⟨a, rfl, hba, q⟩ := h1.ar hk h20 ha
  refine W.iast hx hb q ((hKw.arr (d := 0) (by omega)).1 _ _) (fun q => by cases q) (by rw [arrV_size]; exact hin) rfl rfl hd fun H' e1 e2 e3 => ?_
  refine kk H' _ ls (arrPut h1 hk h20 ha e1 e2 e3 (fun _ => rfl) (fun _ => rfl) (fun d hd i => by rw [hI_sI, if_neg (fun q => hd q.1)]) (fun _ _ _ => rfl) (fun i => sv_ii _ _ _ _)) (fun q hq => ?_) h3
  rcases List.mem_append.mp hq with w | w
  · exact h2 q w
  · rw [List.mem_singleton.mp w]; exact hba
theorem r_cast {c kd : Nat} {i v : Int32} (hC : Cx E X l0 own code maxL rm) (hd : decode code pc = .ok (.castore, 1)) (h20 : 20 ≤ kd) (ha : acd kd = 1) (hk : hK h c = kd) (hin : vp_in i (hL h c)) (kk : WW E X (sI h c (ix i) (cn v)) k n (pc + 1) lo st) : WW E X h k n pc lo (.int v :: .int i :: rv c :: st) := by
  obtain ⟨p, l, e, R, s, m, args, below, meth, cd, Q⟩ := X
  obtain ⟨hx, hb, hml, hown, hts, hKw, hlk, hR0, hl0⟩ := hC
  intro H locs ls h1 h2 h3
  obtain ⟨a, rfl, hba, q⟩ := h1.ar hk h20 ha
  refine W.cast hx hb q ((hKw.arr (d := 1) (by omega)).1 _ _) (fun q => by cases q) (by rw [arrV_size]; exact hin) rfl rfl hd fun H' e1 e2 e3 => ?_
  refine kk H' _ ls (arrPut (v := .int (cn v)) h1 hk h20 ha e1 e2 e3 (fun _ => rfl) (fun _ => rfl) (fun d hd i => by rw [hI_sI, if_neg (fun q => hd q.1)]) (fun _ _ _ => rfl) (fun i => sv_ii _ _ _ _)) (fun q hq => ?_) h3
  rcases List.mem_append.mp hq with w | w
  · exact h2 q w
  · rw [List.mem_singleton.mp w]; exact hba
/-- an object's class, from its kind -/
theorem Rep.cell {h : Hp} {H : Heap} {s : State} (x : Rep E h H) (hKw : Kw E s) {c ci : Nat} (hk : hK h c = ci + 1) (hci : ci < 19) {r : vw_C} (hr : cls[ci]? = some r) : ∃ a cell, c = a + 1 ∧ H[a]? = some cell ∧ cell.vm = .none ∧ cell.cls = E.1.1 ci ∧ ClassAt s r.1 (E.1.1 ci) := by
  obtain ⟨a, rfl, -, cell, q1, q2, q3, q4⟩ := x.obj hk hci hr
  exact ⟨a, cell, rfl, q1, q3, q2, (hKw.1.1 ci _ hr).2⟩
theorem r_aast {c kd d v ci : Nat} {i : Int32} {r : vw_C} (hC : Cx E X l0 own code maxL rm) (hd : decode code pc = .ok (.aastore, 1)) (h20 : 20 ≤ kd) (ha : acd kd = d) (hd2 : 2 ≤ d) (hci : ci < 19) (hr : cls[ci]? = some r) (hty : aty d = .object r.1) (hk : hK h c = kd) (hin : vp_in i (hL h c)) (hv : v = 0 ∨ hK h v = ci + 1) (kk : WW E X (sR h c (ix i) v) k n (pc + 1) lo st) : WW E X h k n pc lo (rv v :: .int i :: rv c :: st) := by
  obtain ⟨p, l, e, R, s, m, args, below, meth, cd, Q⟩ := X
  obtain ⟨hx, hb, hml, hown, hts, hKw, hlk, hR0, hl0⟩ := hC
  intro H locs ls h1 h2 h3
  obtain ⟨a, rfl, hba, q⟩ := h1.ar hk h20 ha
  have hd4 : d < 4 := by rw [← ha]; exact acd_lt _
  have hlt : i.toNatClampNeg < hL h (a + 1) := Nat.not_le.mp fun q => hin (Or.inr q)
  have h0 : ¬ i < 0 := fun q => hin (Or.inl q)
  have hdd : decide (2 ≤ d) = true := by simpa using hd2
  have fin : ∀ H' : Heap, H'[a]? = some ((arrV (E.2.1 d) (hL h (a + 1)) (fun i => sv h (a + 1) i (decide (2 ≤ d)))).setSlot i.toNatClampNeg (rv v)) → H'.size = H.size → (∀ q : Nat, q ≠ a → H'[q]? = H[q]?) → W p l e R s m args below meth cd H' (locs ++ [⟨a, i.toNatClampNeg⟩]) k n Q (F0 m (pc + 1) ls st) := by
    intro H' e1 e2 e3
    refine kk H' _ ls (arrPut h1 hk h20 ha e1 e2 e3 (fun _ => rfl) (fun _ => rfl) (fun _ _ _ => rfl) (fun d hd i => by rw [hR_sR, if_neg (fun q => hd q.1)]) (fun i => by rw [hdd]; exact sv_rr _ _ _ _)) (fun q hq => ?_) h3
    rcases List.mem_append.mp hq with w | w
    · exact h2 q w
    · rw [List.mem_singleton.mp w]; exact hba
  have hArr := hKw.arr hd4
  rw [hty] at hArr
  rcases hv with rfl | hv
  · exact va_WaastN (C := r.1) hx hb q (hArr.1 _ _) (fun h => by cases h) (by rw [arrV_size]; exact hin) rfl rfl hd fin
  · obtain ⟨b, cellV, rfl, g1, g3, g2, hcls⟩ := h1.cell hKw hv hci hr
    obtain ⟨kA, comp, k1, k2, k3, -⟩ := hArr.2
    have hcomp : comp = E.1.1 ci := Option.some.inj (k3.symm.trans hcls.1)
    subst hcomp
    obtain ⟨kC, hkC, -⟩ := hcls.2
    exact W.aast hx hb q (fun q h => by cases h) (fun h => by cases h) k1 k2 rfl hkC ⟨h0, by rw [arrV_size]; exact hlt⟩ g1 (fun q h => by rw [g3] at h; cases h) (by rw [g2]; exact hkC) (by rw [g2]; exact va_assign hcls) rfl rfl hd fin
/-- the classes' fields at their birth -/
def DF (ci N : Nat) : Prop := ∃ ty, ctys[ci]? = some ty ∧ ∀ j, j < N → defaultValue (ty j) = if isrf (ty j) = true then .null else .int 0
theorem r_new {ci N index : Nat} {C : String} {T : u_T} (hC : Cx E X l0 own code maxL rm) (hd : decode code pc = .ok (.new index, 3)) (hcl : Cond.classLink own index C ∈ lwG) (hins : Cond.instantiable C N ∈ lwG) (hini : Cond.initialized C ∈ lwG) (hr : cls[ci]? = some (C, T, N)) (hw : ∀ w ∈ u_ws C T N, w ∈ lwG) (hT : FT ci (C, T, N)) (hDF : DF ci N) (hci : ci < 19)
    (hrm : k + 1 ≤ rm.cells ∧ n + N ≤ rm.slots) (kk : ∀ q, q ≠ 0 → hK h q = 0 → WW E X (nN h q (ci + 1) 0) (k + 1) (n + N) (pc + 3) lo (rv q :: st)) : WW E X h k n pc lo st := by
  obtain ⟨p, l, e, R, s, m, args, below, meth, cd, Q⟩ := X
  obtain ⟨hx, hb, hml, hown, hts, hKw, hlk, hR0, hl0⟩ := hC
  intro H locs ls h1 h2 h3
  subst hR0
  have hKn := hKw.1.1 ci _ hr
  obtain ⟨ty, t1, t2, t3⟩ := hT
  obtain ⟨ty', t1', hdf⟩ := hDF
  cases t1.symm.trans t1'
  refine W.newcK hx hb hown (hts _ hcl) (hts _ hins) (hts _ hini) rfl hd hrm.1 hrm.2 hKn.2.1 rfl fun H1 kC hkC e1 z1 o1 => ?_
  have hB := u_born ty hts hw hKn hkC e1 t2
  have y : cellOk E (nN h (H.size + 1) (ci + 1) 0) H1 (H.size + 1) := by
    unfold cellOk
    rw [hK_nN, if_pos rfl, if_pos (by omega)]
    refine ⟨_, hr, hB.to (fun j hj => ?_)⟩
    rw [hdf j hj]
    unfold sv rfk
    rw [hI_nN, hR_nN, if_pos rfl, if_pos rfl, show ci + 1 - 1 = ci by omega, t1]
    rfl
  obtain ⟨g1, g2⟩ := h1.new (by omega) z1 o1 y
  exact kk (H.size + 1) (by omega) g1 H1 locs ls g2 h2 h3
theorem r_newarr {kd d N : Nat} {atype : ArrayType} {v : Int32} (hC : Cx E X l0 own code maxL rm) (hd : decode code pc = .ok (.newarray atype, 2)) (h20 : 20 ≤ kd) (ha : acd kd = d) (hd2 : d < 2) (hty : newarray.typeOf atype = aty d) (hw : Cond.arrayClass (aty d) ∈ lwG) (hv : ¬ v < 0) (hN : v.toNatClampNeg = N) (hN2 : N ≤ 100000)
    (hrm : k + 1 ≤ rm.cells ∧ n + N ≤ rm.slots) (kk : ∀ q, q ≠ 0 → hK h q = 0 → WW E X (nN h q kd N) (k + 1) (n + N) (pc + 2) lo (rv q :: st)) : WW E X h k n pc lo (.int v :: st) := by
  obtain ⟨p, l, e, R, s, m, args, below, meth, cd, Q⟩ := X
  obtain ⟨hx, hb, hml, hown, hts, hKw, hlk, hR0, hl0⟩ := hC
  intro H locs ls h1 h2 h3
  subst hR0
  have hb2 : N * componentBytes (newarray.typeOf atype) ≤ 536870912 := by
    rw [hty]
    rcases (show d = 0 ∨ d = 1 by omega) with rfl | rfl
    · show N * 4 ≤ _; omega
    · show N * 2 ≤ _; omega
  refine va_newaK hx hb (by rw [hty]; exact hts _ hw) rfl hd rfl hv hN hb2 hrm.1 hrm.2 rfl fun H1 cA e1 z1 o1 hAr hNm => ?_
  have hcA : cA = E.2.1 d := by
    have g := (hKw.arr (d := d) (by omega)).2
    rw [hty] at hNm
    rcases (show d = 0 ∨ d = 1 by omega) with rfl | rfl
    · exact Option.some.inj (hNm.symm.trans g)
    · exact Option.some.inj (hNm.symm.trans g)
  subst hcA
  have hdv : defaultValue (newarray.typeOf atype) = .int 0 := by
    rw [hty]
    rcases (show d = 0 ∨ d = 1 by omega) with rfl | rfl <;> rfl
  have y : cellOk E (nN h (H.size + 1) kd N) H1 (H.size + 1) := by
    unfold cellOk
    rw [hK_nN, if_pos rfl, if_neg (by omega), ha, hL_nN, if_pos rfl]
    show H1[H.size]? = _
    rw [e1, hdv]
    congr 2
    funext i
    unfold sv
    rw [if_neg (by simp; omega), hI_nN, if_pos rfl]
  obtain ⟨g1, g2⟩ := h1.new (by omega) z1 o1 y
  exact kk (H.size + 1) (by omega) g1 H1 locs ls g2 h2 h3
theorem r_anew {kd d N index : Nat} {C : String} {v : Int32} (hC : Cx E X l0 own code maxL rm) (hd : decode code pc = .ok (.anewarray index, 3)) (h20 : 20 ≤ kd) (ha : acd kd = d) (hd2 : d = 2 ∨ d = 3) (hty : aty d = .object C) (hw : Cond.classLink own index C ∈ lwG) (hv : ¬ v < 0) (hN : v.toNatClampNeg = N) (hN2 : N ≤ 100000)
    (hrm : k + 1 ≤ rm.cells ∧ n + N ≤ rm.slots) (kk : ∀ q, q ≠ 0 → hK h q = 0 → WW E X (nN h q kd N) (k + 1) (n + N) (pc + 3) lo (rv q :: st)) : WW E X h k n pc lo (.int v :: st) := by
  obtain ⟨p, l, e, R, s, m, args, below, meth, cd, Q⟩ := X
  obtain ⟨hx, hb, hml, hown, hts, hKw, hlk, hR0, hl0⟩ := hC
  intro H locs ls h1 h2 h3
  subst hR0; subst hN
  have hAO : va_AO C s := by
    rcases hd2 with rfl | rfl
    · cases hty; exact hKw.2.2.1
    · cases hty; exact hKw.2.2.2.1
  have hd4 : d < 4 := by omega
  refine W.anew hx hb hown (hts _ hw) (va_AO.use hAO) rfl hd rfl hv (by omega) hrm.1 hrm.2 fun cA kA comp f1 f2 f3 f4 => ?_
  have hcA : cA = E.2.1 d := by
    have g := (hKw.arr hd4).2
    rw [hty] at g
    obtain ⟨_, _, _, _, _, g4⟩ := g
    exact Option.some.inj (f1.symm.trans g4)
  subst hcA
  generalize hH1 : H.push ({ cls := E.2.1 d, slots := Array.replicate v.toNatClampNeg .null, vm := .none } : Cell) = H1
  have z1 : H1.size = H.size + 1 := by rw [← hH1, Array.size_push]
  have e1 : H1[H.size]? = some (arrV (E.2.1 d) v.toNatClampNeg (fun _ => .null)) := by rw [← hH1, Array.getElem?_push_size, ← arrV_new]
  have o1 : ∀ q : Nat, q < H.size → H1[q]? = H[q]? := fun q hq => by rw [← hH1, Array.getElem?_push, if_neg (Nat.ne_of_lt hq)]
  have y : cellOk E (nN h (H.size + 1) kd v.toNatClampNeg) H1 (H.size + 1) := by
    unfold cellOk
    rw [hK_nN, if_pos rfl, if_neg (by omega), ha, hL_nN, if_pos rfl]
    show H1[H.size]? = _
    rw [e1]
    congr 2
    funext i
    unfold sv
    rw [if_pos (by simp; omega), hR_nN, if_pos rfl]
    rfl
  obtain ⟨g1, g2⟩ := h1.new (by omega) z1 o1 y
  exact kk (H.size + 1) (by omega) g1 H1 locs ls g2 h2 h3
theorem r_min {index : Nat} {x y : Int32} (hC : Cx E X l0 own code maxL rm) (hd : decode code pc = .ok (.invokestatic index, 3)) (hlen : lo.length = maxL) (hl : Cond.methodLink own index Lib.Math.min.name ∈ lwG) (hs : Cond.static Lib.Math.min.name ∈ lwG) (hi : Cond.initialized "java/lang/Math" ∈ lwG) (hc : Cond.code Lib.Math.min.name Lib.Math.min.code 2 (some .int) ∈ lwG)
    {w : Nat} (hcs : cs st w) (hrm : 1 ≤ rm.frames ∧ w + 13 ≤ rm.locals ∧ k ≤ rm.cells ∧ n ≤ rm.slots) (kk : WW E X h k n (pc + 3) lo (.int (if y < x then y else x) :: st)) : WW E X h k n pc lo (.int y :: .int x :: st) := by
  obtain ⟨p, l, e, R, s, m, args, below, meth, cd, Q⟩ := X
  obtain ⟨hx, hb, hml, hown, hts, hKw, hlk, hR0, hl0⟩ := hC
  intro H locs ls h1 h2 h3
  subst hR0
  exact va_mmin hx hb (by rw [hml, h3.1, hlen]) hown (hts _ hl) (hts _ hs) (hts _ hi) (hts _ hc) hrm.1 (by rw [hcs]; exact hrm.2.1) hrm.2.2.1 hrm.2.2.2 hd (kk H locs ls h1 h2 h3)
theorem r_max {index : Nat} {x y : Int32} (hC : Cx E X l0 own code maxL rm) (hd : decode code pc = .ok (.invokestatic index, 3)) (hlen : lo.length = maxL) (hl : Cond.methodLink own index Lib.Math.max.name ∈ lwG) (hs : Cond.static Lib.Math.max.name ∈ lwG) (hi : Cond.initialized "java/lang/Math" ∈ lwG) (hc : Cond.code Lib.Math.max.name Lib.Math.max.code 2 (some .int) ∈ lwG)
    {w : Nat} (hcs : cs st w) (hrm : 1 ≤ rm.frames ∧ w + 13 ≤ rm.locals ∧ k ≤ rm.cells ∧ n ≤ rm.slots) (kk : WW E X h k n (pc + 3) lo (.int (if x < y then y else x) :: st)) : WW E X h k n pc lo (.int y :: .int x :: st) := by
  obtain ⟨p, l, e, R, s, m, args, below, meth, cd, Q⟩ := X
  obtain ⟨hx, hb, hml, hown, hts, hKw, hlk, hR0, hl0⟩ := hC
  intro H locs ls h1 h2 h3
  subst hR0
  exact va_mmax hx hb (by rw [hml, h3.1, hlen]) hown (hts _ hl) (hts _ hs) (hts _ hi) (hts _ hc) hrm.1 (by rw [hcs]; exact hrm.2.1) hrm.2.2.1 hrm.2.2.2 hd (kk H locs ls h1 h2 h3)
theorem clamp_int {z : Int32} (hz : ¬ z < 0) : z.toInt = (z.toNatClampNeg : Int) := by
  have hz0 : (0 : Int) ≤ z.toInt := by
    have := Int32.not_lt.mp hz
    simpa using Int32.le_iff_toInt_le.mp this
  show z.toInt = ((z.toInt.toNat : Nat) : Int)
  omega
theorem r_copy {index a b kd : Nat} {sp dp z : Int32} (hC : Cx E X l0 own code maxL rm) (hd : decode code pc = .ok (.invokestatic index, 3)) (hlen : lo.length = maxL) (hl : Cond.methodLink own index arraycopyName ∈ lwG) (hn : Cond.native arraycopyName ∈ lwG) (hs : Cond.static arraycopyName ∈ lwG) (hi : Cond.initialized "java/lang/System" ∈ lwG)
    {w : Nat} (hcs : cs st w) (hrm : 1 ≤ rm.frames ∧ w + 18 ≤ rm.locals) (h20 : 20 ≤ kd) (ha : acd kd = 0) (ka : hK h a = kd) (kb : hK h b = kd) (g1 : ¬ sp < 0) (g2 : ¬ dp < 0) (g3 : ¬ z < 0) (g4 : ix sp + ix z ≤ hL h a) (g5 : ix dp + ix z ≤ hL h b)
    (kk : WW E X (cpI h a (ix sp) b (ix dp) (ix z)) k n (pc + 3) lo st) : WW E X h k n pc lo (.int z :: .int dp :: rv b :: .int sp :: rv a :: st) := by
  obtain ⟨p, l, e, R, s, m, args, below, meth, cd, Q⟩ := X
  obtain ⟨hx, hb, hml, hown, hts, hKw, hlk, hR0, hl0⟩ := hC
  intro H locs ls h1 h2 h3
  subst hR0
  obtain ⟨a0, rfl, hba, qa⟩ := h1.ar ka h20 ha
  obtain ⟨b0, rfl, hbb, qb⟩ := h1.ar kb h20 ha
  have hda : decide (2 ≤ 0) = false := rfl
  rw [hda] at qa qb
  have ea : (fun i => sv h (a0 + 1) i false) = fun i => Value.int (hI h (a0 + 1) i) := by funext i; rfl
  have eb : (fun i => sv h (b0 + 1) i false) = fun i => Value.int (hI h (b0 + 1) i) := by funext i; rfl
  rw [ea] at qa
  rw [eb] at qb
  have hnf : nativeFrameWords "java/lang/System" "arraycopy" 5 = 7 := by decide +kernel
  intro T hT X
  obtain ⟨hob, k0, hk0, cm0, hkk0⟩ := (hKw.arr (d := 0) (by omega)).1 (hL h (a0 + 1)) (fun i => .int (hI h (a0 + 1) i))
  obtain ⟨hob1, k1, hk1, cm1, hkk1⟩ := (hKw.arr (d := 0) (by omega)).1 (hL h (b0 + 1)) (fun i => .int (hI h (b0 + 1) i))
  obtain ⟨vm', X', step⟩ := X.arraycopy hx hown (hts _ hl) (hts _ hn) (hts _ hs) (hts _ hi) (src := a0) (dst := b0) (srcPos := sp) (destPos := dp) (n := z) (by rw [hT]; exact qa) (by rw [hT]; exact qb)
    (fun _ h => by cases h) (fun _ h => by cases h) (fun h => by cases h) (fun h => by cases h) hk0 hk1 hkk0 hkk1 (by simp [refKind, aty]) g1 g2 g3
    (by rw [clamp_int g1, clamp_int g3, arrV_size]; have := g4; unfold ix at this; omega)
    (by rw [clamp_int g2, clamp_int g3, arrV_size]; have := g5; unfold ix at this; omega)
    (fun vm₁ _ i hi => by
      have e : (arrV (E.2.1 0) (hL h (a0 + 1)) (fun i => Value.int (hI h (a0 + 1) i))).slots.getD (sp.toNatClampNeg + i) .null = .int (hI h (a0 + 1) (sp.toNatClampNeg + i)) := by
        rw [Array.getD_eq_getD_getElem?, arrV_read _ _ (by have := g4; unfold ix at this; omega)]
        rfl
      refine ⟨?_, ?_⟩
      · rw [e]
        rfl
      · rw [e]
        exact trivial)
    (g := F0 m pc ls (.int z :: .int dp :: .ref b0 :: .int sp :: .ref a0 :: st)) rfl (by rw [hml, ← hlen]; exact h3.1) (rest := st) rfl (by rw [hb]; exact hd) hrm.1 (by rw [hnf]; have := hrm.2; show 2 * 0 + (st.map fun v => v.category).sum + _ ≤ _; rw [hcs]; omega)
  have e1 : copied (arrV (E.2.1 0) (hL h (a0 + 1)) (fun i => Value.int (hI h (a0 + 1) i))) (arrV (E.2.1 0) (hL h (b0 + 1)) (fun i => Value.int (hI h (b0 + 1) i))) sp dp z = arrV (E.2.1 0) (hL h (b0 + 1)) (fun i => .int (va_cpy (hI h (a0 + 1)) (hI h (b0 + 1)) sp.toNatClampNeg dp.toNatClampNeg z.toNatClampNeg i)) := va_copied (fun z => .int z) (E.2.1 0) (E.2.1 0) (hI h (a0 + 1)) (hI h (b0 + 1)) g4
  rw [e1] at X' step
  have hl : b0 < H.size := (Array.getElem?_eq_some_iff.mp qb).1
  generalize hnc : arrV (E.2.1 0) (hL h (b0 + 1)) (fun i => Value.int (va_cpy (hI h (a0 + 1)) (hI h (b0 + 1)) sp.toNatClampNeg dp.toNatClampNeg z.toNatClampNeg i)) = nc at X' step
  have hheap : ((T.setVm vm').setCell b0 nc).heap = H.setIfInBounds b0 nc := by rw [← hT]; rfl
  have oq : ∀ q : Nat, q ≠ b0 → (H.setIfInBounds b0 nc)[q]? = H[q]? := fun q hq => by simp [Array.getElem?_setIfInBounds, Ne.symm hq]
  have y : Rep E (cpI h (a0 + 1) (ix sp) (b0 + 1) (ix dp) (ix z)) (H.setIfInBounds b0 nc) := by
    refine h1.put (c := b0 + 1) (by omega) (fun _ => rfl) (fun _ => rfl) (fun d hd i => by rw [hI_cp, if_neg (fun q => hd q.1)]) (fun _ _ _ => rfl) (by simp) (fun q hq => oq q hq) ?_
    unfold cellOk
    rw [hK_cp, kb, if_neg (by omega), ha]
    show (H.setIfInBounds b0 nc)[b0]? = _
    rw [← hnc]
    simp only [Array.getElem?_setIfInBounds, hl, if_true]
    congr 2
    funext i
    unfold sv
    rw [if_neg (by decide), hI_cp]
    unfold va_cpy ix
    simp only [true_and]
  obtain ⟨t, a1, b1⟩ := kk _ _ ls y (fun q hq => by
      rcases List.mem_append.mp hq with w | w
      · exact h2 q w
      · obtain ⟨z, -, hz⟩ := List.mem_map.mp w
        rw [← hz]
        exact hbb) h3 _ hheap X'
  exact ⟨t, step t a1, b1⟩
end ARRROWS
