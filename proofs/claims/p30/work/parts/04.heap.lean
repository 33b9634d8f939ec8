section HEAPROWS
variable {E : Ev} {X : Xt} {l0 : Launch} {own : String} {code : ByteArray} {maxL : Nat} {rm : Room} {h : Hp} {k n pc : Nat} {lo : List (Option Value)} {st : List Value}
/-- a field's link, as the tables have it -/
def FL (own : String) (index ci j : Nat) (r : vw_C) : Prop := cls[ci]? = some r ∧ j < r.2.2 ∧ Cond.fieldLink own index (r.2.1 j).1 (r.2.1 j).2.1 (r.2.1 j).2.2.1 ∈ lwG ∧ ∀ w ∈ u_ws r.1 r.2.1 r.2.2, w ∈ lwG
theorem Rep.obj {h : Hp} {H : Heap} (x : Rep E h H) {c ci : Nat} (hk : hK h c = ci + 1) (hci : ci < 19) {r : vw_C} (hr : cls[ci]? = some r) : ∃ a, c = a + 1 ∧ E.2.2.1 ≤ a ∧ t_OB a (E.1.1 ci) r.2.2 (E.1.2 ci) H (fun j => sv h c j (rfk ci j)) := by
  have h0 : hK h c ≠ 0 := by omega
  obtain ⟨a, rfl⟩ := x.code h0
  obtain ⟨g1, g2⟩ := x.2.2.2 _ h0
  unfold cellOk at g2
  rw [hk, if_pos (by omega)] at g2
  obtain ⟨r0, e1, e2⟩ := g2
  rw [show ci + 1 - 1 = ci by omega] at e1 e2
  cases e1.symm.trans hr
  exact ⟨a, rfl, g1, e2⟩
theorem r_getf {ci j index : Nat} {c : Nat} {r : vw_C} (hC : Cx E X l0 own code maxL rm) (hd : decode code pc = .ok (.getfield index, 3)) (hF : FL own index ci j r) (hk : hK h c = ci + 1) (hci : ci < 19) (kk : WW E X h k n (pc + 3) lo (sv h c j (rfk ci j) :: st)) : WW E X h k n pc lo (rv c :: st) := by
  obtain ⟨p, l, e, R, s, m, args, below, meth, cd, Q⟩ := X
  obtain ⟨hx, hb, hml, hown, hts, hKw, hlk, hR, hl0⟩ := hC
  intro H locs ls h1 h2 h3
  obtain ⟨g1, g2, g3, g4⟩ := hF
  obtain ⟨a, rfl, -, cell, q1, q2, q3, q4⟩ := h1.obj hk hci g1
  obtain ⟨hS, hfc, kC, hkC, hkind⟩ := hKw.1.1 ci _ g1
  obtain ⟨cf, kf, fi, f, hi, hsl⟩ := hS j g2
  refine W.getf hx hb hown (hts _ g3) hi (u_facts hfc hkC (u_lays hts g4 g2) hi).1 q1 (by rw [q3]; exact fun h => by cases h) (v := sv h (a + 1) j (rfk ci j)) ?_ rfl rfl hd (kk H locs ls h1 h2 h3)
  rw [hsl, q4 j g2]
theorem r_getI {ci j index : Nat} {c : Nat} {r : vw_C} (hC : Cx E X l0 own code maxL rm) (hd : decode code pc = .ok (.getfield index, 3)) (hF : FL own index ci j r) (hrf : rfk ci j = false) (hci : ci < 19) (hk : hK h c = ci + 1) (kk : WW E X h k n (pc + 3) lo (.int (hI h c j) :: st)) : WW E X h k n pc lo (rv c :: st) :=
  r_getf hC hd hF hk hci (by rw [hrf]; exact kk)
theorem r_getR {ci j index : Nat} {c : Nat} {r : vw_C} (hC : Cx E X l0 own code maxL rm) (hd : decode code pc = .ok (.getfield index, 3)) (hF : FL own index ci j r) (hrf : rfk ci j = true) (hci : ci < 19) (hk : hK h c = ci + 1) (kk : WW E X h k n (pc + 3) lo (rv (hR h c j) :: st)) : WW E X h k n pc lo (rv c :: st) :=
  r_getf hC hd hF hk hci (by rw [hrf]; exact kk)
/-- a class's fields: types, names apart -/
def FT (ci : Nat) (r : vw_C) : Prop := ∃ ty : Nat → FieldType, ctys[ci]? = some ty ∧ (∀ j, j < r.2.2 → parseFieldDescriptor (r.2.1 j).2.2.1 = some (ty j)) ∧ ∀ a, a < r.2.2 → ∀ b, b < r.2.2 → a ≠ b → (r.2.1 a).2.1 ≠ (r.2.1 b).2.1
theorem putOk {h1 : Hp} {H H1 : Heap} {a ci j N : Nat} {cell : Cell} {v : Value} {r : vw_C} (x : Rep E h H) (hk : hK h (a + 1) = ci + 1) (hci : ci < 19) (hr : cls[ci]? = some r) (hN : r.2.2 = N) (hj : j < N) (q2 : cell.cls = E.1.1 ci) (q3 : cell.vm = .none) (q4 : ∀ i, i < N → cell.slots[E.1.2 ci i]? = some (sv h (a + 1) i (rfk ci i)))
    (hap : ∀ x y, x < N → y < N → x ≠ y → E.1.2 ci x ≠ E.1.2 ci y) (e1 : H1[a]? = some (cell.setSlot (E.1.2 ci j) v)) (e2 : H1.size = H.size) (e3 : ∀ q : Nat, q ≠ a → H1[q]? = H[q]?)
    (k1 : ∀ d, hK h1 d = hK h d) (n1 : ∀ d, hL h1 d = hL h d) (i1 : ∀ d, d ≠ a + 1 → ∀ i, hI h1 d i = hI h d i) (r1 : ∀ d, d ≠ a + 1 → ∀ i, hR h1 d i = hR h d i) (s1 : ∀ i, sv h1 (a + 1) i (rfk ci i) = if i = j then v else sv h (a + 1) i (rfk ci i)) : Rep E h1 H1 := by
  refine x.put (c := a + 1) (by omega) k1 n1 i1 r1 e2 (fun q hq => e3 q hq) ?_
  unfold cellOk
  rw [k1, hk, if_pos (by omega)]
  refine ⟨r, hr, _, e1, q2, q3, fun i hi => ?_⟩
  rw [hN] at hi
  show (cell.setSlot (E.1.2 ci j) v).slots[E.1.2 ci i]? = _
  rw [t_set q4 hap hj v i hi]
  show _ = some (sv h1 (a + 1) i (rfk ci i))
  rw [s1]
  rfl
theorem r_put0 {ci j index : Nat} {c : Nat} {r : vw_C} {v : Value} {h1 : Hp} (hC : Cx E X l0 own code maxL rm) (hd : decode code pc = .ok (.putfield index, 3)) (hF : FL own index ci j r) (hT : FT ci r) (hfin : (r.2.1 j).2.2.2 = false) (hci : ci < 19) (hk : hK h c = ci + 1)
    (hv : ∀ ty, ctys[ci]? = some ty → narrow (ty j) v = v ∧ fits (ty j) v = true)
    (k1 : ∀ d, hK h1 d = hK h d) (n1 : ∀ d, hL h1 d = hL h d) (i1 : ∀ d, d ≠ c → ∀ i, hI h1 d i = hI h d i) (r1 : ∀ d, d ≠ c → ∀ i, hR h1 d i = hR h d i) (s1 : ∀ i, sv h1 c i (rfk ci i) = if i = j then v else sv h c i (rfk ci i))
    (kk : WW E X h1 k n (pc + 3) lo st) : WW E X h k n pc lo (v :: rv c :: st) := by
  obtain ⟨p, l, e, R, s, m, args, below, meth, cd, Q⟩ := X
  obtain ⟨hx, hb, hml, hown, hts, hKw, hlk, hR, hl0⟩ := hC
  intro H locs ls z1 z2 z3
  obtain ⟨g1, g2, g3, g4⟩ := hF
  obtain ⟨a, rfl, hba, cell, q1, q2, q3, q4⟩ := z1.obj hk hci g1
  obtain ⟨ty, t1, t2, t3⟩ := hT
  have hap := va_apart (own := own) hts g4 ty t2 t3 hKw.1 (ci := ci) (N := r.2.2) (C := r.1) (T := r.2.1) g1
  obtain ⟨hS, hfc, kC, hkC, hkind⟩ := hKw.1.1 ci _ g1
  obtain ⟨cf, kf, fi, f, hi, hsl⟩ := hS j g2
  have hlay := hts _ (g4 _ (u_in_lay g2))
  unfold u_lay at hlay
  rw [if_neg (by rw [hfin]; decide)] at hlay
  have hst := (u_facts hfc hkC (u_lays hts g4 g2) hi).1
  obtain ⟨v1, v2⟩ := hv ty t1
  have h6 := u_store hfc hkC hkind hlay hi (t2 j g2) v1 v2
  refine W.putK hx hb (f := f) ⟨hown, hts _ g3, ⟨_, _, _, hi⟩, hst⟩ (by rw [q2]; exact h6) q1 q3 (by rw [hsl]; exact k2_hasslot (q4 j g2)) rfl rfl hd fun H' e1 e2 e3 => ?_
  rw [hsl] at e1 ⊢
  refine kk H' _ ls (putOk z1 hk hci g1 rfl g2 q2 q3 q4 hap e1 e2 e3 k1 n1 i1 r1 s1) (fun q hq => ?_) z3
  rcases List.mem_append.mp hq with w | w
  · exact z2 q w
  · rw [List.mem_singleton.mp w]; exact hba
theorem r_putF0 {ci j index : Nat} {c : Nat} {r : vw_C} {v : Value} {h1 : Hp} {ret : Option FieldType} {KK : Option Value → Hp → Prop} (hC : Cx E X l0 own code maxL rm) (hQ : CQ E X "<init>" ret rm KK) (hd : decode code pc = .ok (.putfield index, 3)) (hF : FL own index ci j r) (hT : FT ci r) (hfin : (r.2.1 j).2.2.2 = true) (hdecl : (r.2.1 j).1 = own) (hci : ci < 19) (hk : hK h c = ci + 1)
    (hv : ∀ ty, ctys[ci]? = some ty → narrow (ty j) v = v ∧ fits (ty j) v = true)
    (k1 : ∀ d, hK h1 d = hK h d) (n1 : ∀ d, hL h1 d = hL h d) (i1 : ∀ d, d ≠ c → ∀ i, hI h1 d i = hI h d i) (r1 : ∀ d, d ≠ c → ∀ i, hR h1 d i = hR h d i) (s1 : ∀ i, sv h1 c i (rfk ci i) = if i = j then v else sv h c i (rfk ci i))
    (kk : WW E X h1 k n (pc + 3) lo st) : WW E X h k n pc lo (v :: rv c :: st) := by
  obtain ⟨p, l, e, R, s, m, args, below, meth, cd, Q⟩ := X
  obtain ⟨hx, hb, hml, hown, hts, hKw, hlk, hR, hl0⟩ := hC
  obtain ⟨-, hin, -⟩ := hQ
  intro H locs ls z1 z2 z3
  obtain ⟨g1, g2, g3, g4⟩ := hF
  obtain ⟨a, rfl, hba, cell, q1, q2, q3, q4⟩ := z1.obj hk hci g1
  obtain ⟨ty, t1, t2, t3⟩ := hT
  have hap := va_apart (own := own) hts g4 ty t2 t3 hKw.1 (ci := ci) (N := r.2.2) (C := r.1) (T := r.2.1) g1
  obtain ⟨hS, hfc, kC, hkC, hkind⟩ := hKw.1.1 ci _ g1
  obtain ⟨cf, kf, fi, f, hi, hsl⟩ := hS j g2
  have hlay := hts _ (g4 _ (u_in_lay g2))
  unfold u_lay at hlay
  rw [if_pos hfin] at hlay
  have hst := (u_facts hfc hkC (u_lays hts g4 g2) hi).1
  have hcf : m.cls = cf := by
    obtain ⟨_, _, c', _, _, _, -, -, hf', -, -, -, hown2, -⟩ := Cond.laysFinal_spec hlay
    have e1 : c' = cf := by have := hi.symm.trans hf'; simp at this; exact this.1.symm
    rw [hdecl] at hown2
    rw [← e1]; exact Option.some.inj (hown.symm.trans hown2)
  obtain ⟨v1, v2⟩ := hv ty t1
  have h6 := u_fits hfc hkC hkind (Or.inr hlay) hi (t2 j g2) v1 v2
  refine W.putFinK hx hb hown (hts _ g3) hi hst hcf hin (by rw [q2]; exact h6) q1 q3 (by rw [hsl]; exact k2_hasslot (q4 j g2)) rfl rfl hd fun H' e1 e2 e3 => ?_
  rw [hsl] at e1 ⊢
  refine kk H' _ ls (putOk z1 hk hci g1 rfl g2 q2 q3 q4 hap e1 e2 e3 k1 n1 i1 r1 s1) (fun q hq => ?_) z3
  rcases List.mem_append.mp hq with w | w
  · exact z2 q w
  · rw [List.mem_singleton.mp w]; exact hba
theorem sv_sI (c j : Nat) (v : Int32) (ci : Nat) (hrf : rfk ci j = false) (i : Nat) : sv (sI h c j v) c i (rfk ci i) = if i = j then .int v else sv h c i (rfk ci i) := by
  unfold sv
  rw [hI_sI, hR_sI]
  by_cases e : i = j
  · subst e; simp [hrf]
  · simp [e]
theorem sv_sR (c j : Nat) (v : Nat) (ci : Nat) (hrf : rfk ci j = true) (i : Nat) : sv (sR h c j v) c i (rfk ci i) = if i = j then rv v else sv h c i (rfk ci i) := by
  unfold sv
  rw [hI_sR, hR_sR]
  by_cases e : i = j
  · subst e; simp [hrf]
  · simp [e]
/-- a field's type, of a whole number that is not narrowed -/
def tyI (ci j : Nat) : Prop := ∃ ty, ctys[ci]? = some ty ∧ ty j = .int
def tyZ (ci j : Nat) : Prop := ∃ ty, ctys[ci]? = some ty ∧ ty j = .boolean
def tyR (ci j : Nat) : Prop := ∃ ty, ctys[ci]? = some ty ∧ isrf (ty j) = true
theorem tyI.ok {ci j : Nat} (h : tyI ci j) (v : Int32) : ∀ ty, ctys[ci]? = some ty → narrow (ty j) (.int v) = .int v ∧ fits (ty j) (.int v) = true := by
  obtain ⟨ty, h1, h2⟩ := h
  intro t ht
  cases h1.symm.trans ht
  rw [h2]
  exact ⟨rfl, rfl⟩
theorem tyZ.ok {ci j : Nat} (h : tyZ ci j) (v : Int32) (hv : v = 0 ∨ v = 1) : ∀ ty, ctys[ci]? = some ty → narrow (ty j) (.int v) = .int v ∧ fits (ty j) (.int v) = true := by
  obtain ⟨ty, h1, h2⟩ := h
  intro t ht
  cases h1.symm.trans ht
  rw [h2]
  rcases hv with rfl | rfl <;> exact ⟨rfl, rfl⟩
theorem tyR.ok {ci j : Nat} (h : tyR ci j) (v : Nat) : ∀ ty, ctys[ci]? = some ty → narrow (ty j) (rv v) = rv v ∧ fits (ty j) (rv v) = true := by
  obtain ⟨ty, h1, h2⟩ := h
  intro t ht
  cases h1.symm.trans ht
  generalize ty j = w at h2 ⊢
  cases w <;> first | (cases v <;> exact ⟨rfl, rfl⟩) | cases h2
theorem r_putI {ci j index : Nat} {c : Nat} {r : vw_C} {v : Int32} (hC : Cx E X l0 own code maxL rm) (hd : decode code pc = .ok (.putfield index, 3)) (hF : FL own index ci j r) (hT : FT ci r) (hfin : (r.2.1 j).2.2.2 = false) (hrf : rfk ci j = false) (hty : tyI ci j) (hci : ci < 19) (hk : hK h c = ci + 1)
    (kk : WW E X (sI h c j v) k n (pc + 3) lo st) : WW E X h k n pc lo (.int v :: rv c :: st) :=
  r_put0 (h1 := sI h c j v) hC hd hF hT hfin hci hk (hty.ok v) (fun _ => rfl) (fun _ => rfl) (fun d hd i => by rw [hI_sI, if_neg (fun q => hd q.1)]) (fun _ _ _ => rfl) (sv_sI c j v ci hrf) kk
theorem r_putZ {ci j index : Nat} {c : Nat} {r : vw_C} {v : Int32} (hC : Cx E X l0 own code maxL rm) (hd : decode code pc = .ok (.putfield index, 3)) (hF : FL own index ci j r) (hT : FT ci r) (hfin : (r.2.1 j).2.2.2 = false) (hrf : rfk ci j = false) (hty : tyZ ci j) (hci : ci < 19) (hk : hK h c = ci + 1) (hv : v = 0 ∨ v = 1)
    (kk : WW E X (sI h c j v) k n (pc + 3) lo st) : WW E X h k n pc lo (.int v :: rv c :: st) :=
  r_put0 (h1 := sI h c j v) hC hd hF hT hfin hci hk (hty.ok v hv) (fun _ => rfl) (fun _ => rfl) (fun d hd i => by rw [hI_sI, if_neg (fun q => hd q.1)]) (fun _ _ _ => rfl) (sv_sI c j v ci hrf) kk
theorem r_putR {ci j index : Nat} {c v : Nat} {r : vw_C} (hC : Cx E X l0 own code maxL rm) (hd : decode code pc = .ok (.putfield index, 3)) (hF : FL own index ci j r) (hT : FT ci r) (hfin : (r.2.1 j).2.2.2 = false) (hrf : rfk ci j = true) (hty : tyR ci j) (hci : ci < 19) (hk : hK h c = ci + 1)
    (kk : WW E X (sR h c j v) k n (pc + 3) lo st) : WW E X h k n pc lo (rv v :: rv c :: st) :=
  r_put0 (h1 := sR h c j v) hC hd hF hT hfin hci hk (hty.ok v) (fun _ => rfl) (fun _ => rfl) (fun _ _ _ => rfl) (fun d hd i => by rw [hR_sR, if_neg (fun q => hd q.1)]) (sv_sR c j v ci hrf) kk
theorem r_putFI {ci j index : Nat} {c : Nat} {r : vw_C} {v : Int32} {ret : Option FieldType} {KK : Option Value → Hp → Prop} (hC : Cx E X l0 own code maxL rm) (hQ : CQ E X "<init>" ret rm KK) (hd : decode code pc = .ok (.putfield index, 3)) (hF : FL own index ci j r) (hT : FT ci r) (hfin : (r.2.1 j).2.2.2 = true) (hdecl : (r.2.1 j).1 = own) (hrf : rfk ci j = false) (hty : tyI ci j) (hci : ci < 19) (hk : hK h c = ci + 1)
    (kk : WW E X (sI h c j v) k n (pc + 3) lo st) : WW E X h k n pc lo (.int v :: rv c :: st) :=
  r_putF0 (h1 := sI h c j v) hC hQ hd hF hT hfin hdecl hci hk (hty.ok v) (fun _ => rfl) (fun _ => rfl) (fun d hd i => by rw [hI_sI, if_neg (fun q => hd q.1)]) (fun _ _ _ => rfl) (sv_sI c j v ci hrf) kk
theorem r_putFR {ci j index : Nat} {c v : Nat} {r : vw_C} {ret : Option FieldType} {KK : Option Value → Hp → Prop} (hC : Cx E X l0 own code maxL rm) (hQ : CQ E X "<init>" ret rm KK) (hd : decode code pc = .ok (.putfield index, 3)) (hF : FL own index ci j r) (hT : FT ci r) (hfin : (r.2.1 j).2.2.2 = true) (hdecl : (r.2.1 j).1 = own) (hrf : rfk ci j = true) (hty : tyR ci j) (hci : ci < 19) (hk : hK h c = ci + 1)
    (kk : WW E X (sR h c j v) k n (pc + 3) lo st) : WW E X h k n pc lo (rv v :: rv c :: st) :=
  r_putF0 (h1 := sR h c j v) hC hQ hd hF hT hfin hdecl hci hk (hty.ok v) (fun _ => rfl) (fun _ => rfl) (fun _ _ _ => rfl) (fun d hd i => by rw [hR_sR, if_neg (fun q => hd q.1)]) (sv_sR c j v ci hrf) kk
end HEAPROWS
