/-! the pure heap: contents by cell code (address + 1; 0 is null) and place -/
def lwG : List Cond := lw_tbl.filter goodWord
theorem lwm (i : Nat) {w : Cond} (h : lw_tbl[i]? = some w) (hg : goodWord w = true) : w ∈ lwG := List.mem_filter.mpr ⟨List.mem_of_getElem? h, hg⟩
theorem lwG_good (w : Cond) (h : w ∈ lwG) : goodWord w = true := (List.mem_filter.mp h).2
abbrev Hp : Type := (Nat → Nat → Int32) × (Nat → Nat → Nat) × (Nat → Nat) × (Nat → Nat)
def hI (h : Hp) (c i : Nat) : Int32 := h.1 c i
def hR (h : Hp) (c i : Nat) : Nat := h.2.1 c i
def hK (h : Hp) (c : Nat) : Nat := h.2.2.1 c
def hL (h : Hp) (c : Nat) : Nat := h.2.2.2 c
def sI (h : Hp) (c i : Nat) (v : Int32) : Hp := (fun x j => if x = c ∧ j = i then v else h.1 x j, h.2.1, h.2.2.1, h.2.2.2)
def sR (h : Hp) (c i : Nat) (v : Nat) : Hp := (h.1, fun x j => if x = c ∧ j = i then v else h.2.1 x j, h.2.2.1, h.2.2.2)
def nN (h : Hp) (q k n : Nat) : Hp := (fun x j => if x = q then 0 else h.1 x j, fun x j => if x = q then 0 else h.2.1 x j, fun x => if x = q then k else h.2.2.1 x, fun x => if x = q then n else h.2.2.2 x)
def cpI (h : Hp) (a sp b dp n : Nat) : Hp := (fun x j => if x = b ∧ dp ≤ j ∧ j < dp + n then h.1 a (sp + (j - dp)) else h.1 x j, h.2.1, h.2.2.1, h.2.2.2)
def ix (i : Int32) : Nat := i.toNatClampNeg
/-- what a char keeps of an int -/
def cn (x : Int32) : Int32 := (x.toUInt32 % 65536).toInt32
theorem hI_sI (h : Hp) (c i : Nat) (v : Int32) (x j : Nat) : hI (sI h c i v) x j = if x = c ∧ j = i then v else hI h x j := rfl
theorem hR_sI (h : Hp) (c i : Nat) (v : Int32) (x j : Nat) : hR (sI h c i v) x j = hR h x j := rfl
theorem hK_sI (h : Hp) (c i : Nat) (v : Int32) (x : Nat) : hK (sI h c i v) x = hK h x := rfl
theorem hL_sI (h : Hp) (c i : Nat) (v : Int32) (x : Nat) : hL (sI h c i v) x = hL h x := rfl
theorem hI_sR (h : Hp) (c i : Nat) (v : Nat) (x j : Nat) : hI (sR h c i v) x j = hI h x j := rfl
theorem hR_sR (h : Hp) (c i : Nat) (v : Nat) (x j : Nat) : hR (sR h c i v) x j = if x = c ∧ j = i then v else hR h x j := rfl
theorem hK_sR (h : Hp) (c i : Nat) (v : Nat) (x : Nat) : hK (sR h c i v) x = hK h x := rfl
theorem hL_sR (h : Hp) (c i : Nat) (v : Nat) (x : Nat) : hL (sR h c i v) x = hL h x := rfl
theorem hI_nN (h : Hp) (q k n x j : Nat) : hI (nN h q k n) x j = if x = q then 0 else hI h x j := rfl
theorem hR_nN (h : Hp) (q k n x j : Nat) : hR (nN h q k n) x j = if x = q then 0 else hR h x j := rfl
theorem hK_nN (h : Hp) (q k n x : Nat) : hK (nN h q k n) x = if x = q then k else hK h x := rfl
theorem hL_nN (h : Hp) (q k n x : Nat) : hL (nN h q k n) x = if x = q then n else hL h x := rfl
theorem hI_cp (h : Hp) (a sp b dp n x j : Nat) : hI (cpI h a sp b dp n) x j = if x = b ∧ dp ≤ j ∧ j < dp + n then hI h a (sp + (j - dp)) else hI h x j := rfl
theorem hR_cp (h : Hp) (a sp b dp n x j : Nat) : hR (cpI h a sp b dp n) x j = hR h x j := rfl
theorem hK_cp (h : Hp) (a sp b dp n x : Nat) : hK (cpI h a sp b dp n) x = hK h x := rfl
theorem hL_cp (h : Hp) (a sp b dp n x : Nat) : hL (cpI h a sp b dp n) x = hL h x := rfl
/-! references -/
def oc : Nat → Option Nat
  | 0 => none
  | a + 1 => some a
def rv (c : Nat) : Value := va_rf (oc c)
theorem rv_0 : rv 0 = .null := rfl
theorem rv_s (a : Nat) : rv (a + 1) = .ref a := rfl
theorem rv_cat (c : Nat) : (rv c).category = 1 := by cases c <;> rfl
theorem rv_or (c : Nat) : rv c = .null ∨ ∃ a, rv c = .ref a := by cases c <;> first | exact Or.inl rfl | exact Or.inr ⟨_, rfl⟩
/-! the classes: which slots are references -/
def cls : List vw_C := [(RX0, TX0, 2), (RX1, TX1, 4), (RX2, TX2, 9), (RX3, TX3, 4), (RX4, TX4, 8), (RX5, TX5, 11), (RX6, TX6, 9)]
def isrf (t : FieldType) : Bool := match t with
  | .object _ => true
  | .array _ => true
  | _ => false
def ctys : List (Nat → FieldType) := [tyX0, tyX1, tyX2, tyX3, tyX4, tyX5, tyX6]
def rfk (c k : Nat) : Bool := match ctys[c]? with
  | some t => isrf (t k)
  | none => false
/-- kinds: a class's number + 1; 21, 25 char[], 22 Job[], 23 State[]; else from 20 on int[] (a kind a field: which array it is) -/
def acd (k : Nat) : Nat := if k = 21 ∨ k = 25 then 1 else if k = 22 then 2 else if k = 23 then 3 else 0
def aty (d : Nat) : FieldType := if d = 1 then .char else if d = 2 then .object RX1 else if d = 3 then .object RX5 else .int
abbrev Ev : Type := va_G × (Nat → ClassId) × Nat × Heap × Nat × Nat × (Nat → Int32)
/-- the script as a reference; its length; its ints -/
def sb (E : Ev) : Nat := E.2.2.2.2.1 + 1
def sL (E : Ev) : Nat := E.2.2.2.2.2.1
def sX (E : Ev) : Nat → Int32 := E.2.2.2.2.2.2
def sv (h : Hp) (c i : Nat) (r : Bool) : Value := if r = true then rv (hR h c i) else .int (hI h c i)
def cellOk (E : Ev) (h : Hp) (H : Heap) (c : Nat) : Prop :=
  if hK h c < 20 then ∃ r : vw_C, cls[hK h c - 1]? = some r ∧ t_OB (c - 1) (E.1.1 (hK h c - 1)) r.2.2 (E.1.2 (hK h c - 1)) H (fun k => sv h c k (rfk (hK h c - 1) k))
  else H[c - 1]? = some (arrV (E.2.1 (acd (hK h c))) (hL h c) (fun i => sv h c i (decide (2 ≤ acd (hK h c)))))
def Rep (E : Ev) (h : Hp) (H : Heap) : Prop := hK h 0 = 0 ∧ E.2.2.1 ≤ H.size ∧ (∀ q : Nat, q < E.2.2.1 → H[q]? = E.2.2.2.1[q]?) ∧ ∀ c, hK h c ≠ 0 → E.2.2.1 ≤ c - 1 ∧ cellOk E h H c
theorem cellOk.lt {E : Ev} {h : Hp} {H : Heap} {c : Nat} (x : cellOk E h H c) : c - 1 < H.size := by
  unfold cellOk at x
  split at x
  · obtain ⟨r, -, cell, h2, -⟩ := x
    exact (Array.getElem?_eq_some_iff.mp h2).1
  · exact (Array.getElem?_eq_some_iff.mp x).1
theorem cellOk.same {E : Ev} {h h1 : Hp} {H H1 : Heap} {c : Nat} (x : cellOk E h H c) (k : hK h1 c = hK h c) (n : hL h1 c = hL h c) (i : ∀ j, hI h1 c j = hI h c j) (r : ∀ j, hR h1 c j = hR h c j) (q : H1[c - 1]? = H[c - 1]?) : cellOk E h1 H1 c := by
  have e : ∀ (j : Nat) (b : Bool), sv h1 c j b = sv h c j b := fun j b => by unfold sv; rw [i, r]
  unfold cellOk at x ⊢
  rw [k]
  split at x
  · rename_i hk
    rw [if_pos hk]
    obtain ⟨r0, g1, g2⟩ := x
    exact ⟨r0, g1, (g2.kept q).to (fun j _ => (e j _).symm)⟩
  · rename_i hk
    rw [if_neg hk, q, n, x]
    congr 2
    funext j
    exact (e j _).symm
theorem Rep.code {E : Ev} {h : Hp} {H : Heap} (x : Rep E h H) {c : Nat} (k : hK h c ≠ 0) : ∃ a, c = a + 1 := by
  cases c with
  | zero => exact absurd x.1 k
  | succ a => exact ⟨a, rfl⟩
/-- one cell is written -/
theorem Rep.put {E : Ev} {h h1 : Hp} {H H1 : Heap} {c : Nat} (x : Rep E h H) (k0 : hK h c ≠ 0) (k : ∀ d, hK h1 d = hK h d) (n : ∀ d, hL h1 d = hL h d) (i : ∀ d, d ≠ c → ∀ j, hI h1 d j = hI h d j) (r : ∀ d, d ≠ c → ∀ j, hR h1 d j = hR h d j)
    (z : H1.size = H.size) (o : ∀ q : Nat, q ≠ c - 1 → H1[q]? = H[q]?) (y : cellOk E h1 H1 c) : Rep E h1 H1 := by
  obtain ⟨a0, rfl⟩ := x.code k0
  refine ⟨by rw [k]; exact x.1, by rw [z]; exact x.2.1, fun q hq => ?_, fun d hd => ?_⟩
  · have := (x.2.2.2 _ k0).1
    rw [o q (by omega)]
    exact x.2.2.1 q hq
  · rw [k] at hd
    refine ⟨(x.2.2.2 d hd).1, ?_⟩
    by_cases e : d = a0 + 1
    · subst e; exact y
    · obtain ⟨d0, rfl⟩ := x.code hd
      exact (x.2.2.2 _ hd).2.same (k _) (n _) (i _ e) (r _ e) (o _ (by omega))
/-- one cell is made -/
theorem Rep.new {E : Ev} {h : Hp} {H H1 : Heap} {kd n : Nat} (x : Rep E h H) (hk : kd ≠ 0) (z : H1.size = H.size + 1) (o : ∀ q : Nat, q < H.size → H1[q]? = H[q]?) (y : cellOk E (nN h (H.size + 1) kd n) H1 (H.size + 1)) : hK h (H.size + 1) = 0 ∧ Rep E (nN h (H.size + 1) kd n) H1 := by
  have hz : hK h (H.size + 1) = 0 := by
    by_cases e : hK h (H.size + 1) = 0
    · exact e
    · have := (x.2.2.2 _ e).2.lt
      omega
  refine ⟨hz, ?_, by have := x.2.1; omega, fun q hq => ?_, fun d hd => ?_⟩
  · rw [hK_nN, if_neg (by omega)]; exact x.1
  · have := x.2.1
    rw [o q (by omega)]
    exact x.2.2.1 q hq
  · by_cases e : d = H.size + 1
    · subst e
      exact ⟨by have := x.2.1; omega, y⟩
    · rw [hK_nN, if_neg e] at hd
      obtain ⟨g1, g2⟩ := x.2.2.2 d hd
      refine ⟨g1, g2.same ?_ ?_ (fun j => ?_) (fun j => ?_) (o _ g2.lt)⟩
      · rw [hK_nN, if_neg e]
      · rw [hL_nN, if_neg e]
      · rw [hI_nN, if_neg e]
      · rw [hR_nN, if_neg e]
