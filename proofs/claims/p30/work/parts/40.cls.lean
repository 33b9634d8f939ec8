/-! the class's heap: what never changes; its own int cells by kind -/
def im (k : Nat) : Prop := k = 8 ∨ 60 ≤ k ∨ k = 2 ∨ k = 3 ∨ k = 4 ∨ k = 20 ∨ k = 25 ∨ k = 31 ∨ k = 32 ∨ k = 33 ∨ k = 34
theorem im0 : ¬ im 0 := by unfold im; omega
/-- the reference's cells and the made jobs, orders, layouts are as they were -/
def FR (h h' : Hp) : Prop := ∀ c, im (hK h c) → hK h' c = hK h c ∧ hL h' c = hL h c ∧ (∀ i, hI h' c i = hI h c i) ∧ ∀ i, hR h' c i = hR h c i
theorem FR.rf (h : Hp) : FR h h := fun _ _ => ⟨rfl, rfl, fun _ => rfl, fun _ => rfl⟩
theorem FR.tr {h h1 h2 : Hp} (a : FR h h1) (b : FR h1 h2) : FR h h2 := fun c hc => by
  obtain ⟨a1, a2, a3, a4⟩ := a c hc
  obtain ⟨b1, b2, b3, b4⟩ := b c (by rw [a1]; exact hc)
  exact ⟨b1.trans a1, b2.trans a2, fun i => (b3 i).trans (a3 i), fun i => (b4 i).trans (a4 i)⟩
theorem FR.tr' {h h1 h2 : Hp} (a : FR h h1) (b : ∀ c, im (hK h c) → hK h2 c = hK h1 c ∧ hL h2 c = hL h1 c ∧ (∀ i, hI h2 c i = hI h1 c i) ∧ ∀ i, hR h2 c i = hR h1 c i) : FR h h2 := fun c hc => by
  obtain ⟨a1, a2, a3, a4⟩ := a c hc
  obtain ⟨b1, b2, b3, b4⟩ := b c hc
  exact ⟨b1.trans a1, b2.trans a2, fun i => (b3 i).trans (a3 i), fun i => (b4 i).trans (a4 i)⟩
theorem FR.i {h h1 : Hp} (a : FR h h1) {c i : Nat} {v : Int32} (hc : ¬ im (hK h c)) : FR h (sI h1 c i v) := fun d hd => by
  obtain ⟨a1, a2, a3, a4⟩ := a d hd
  refine ⟨a1, a2, fun j => ?_, a4⟩
  rw [hI_sI, if_neg (fun (q : d = c ∧ j = i) => hc (by rw [← q.1]; exact hd)), a3]
theorem FR.r {h h1 : Hp} (a : FR h h1) {c i v : Nat} (hc : ¬ im (hK h c)) : FR h (sR h1 c i v) := fun d hd => by
  obtain ⟨a1, a2, a3, a4⟩ := a d hd
  refine ⟨a1, a2, a3, fun j => ?_⟩
  rw [hR_sR, if_neg (fun (q : d = c ∧ j = i) => hc (by rw [← q.1]; exact hd)), a4]
theorem FR.cp {h h1 : Hp} (a : FR h h1) {s sp c dp n : Nat} (hc : ¬ im (hK h c)) : FR h (cpI h1 s sp c dp n) := fun d hd => by
  obtain ⟨a1, a2, a3, a4⟩ := a d hd
  refine ⟨a1, a2, fun j => ?_, a4⟩
  rw [hI_cp, if_neg (fun (q : d = c ∧ dp ≤ j ∧ j < dp + n) => hc (by rw [← q.1]; exact hd)), a3]
theorem FR.n {h h1 : Hp} (a : FR h h1) {q k n : Nat} (hq : hK h1 q = 0) : FR h (nN h1 q k n) := fun d hd => by
  obtain ⟨a1, a2, a3, a4⟩ := a d hd
  have : ¬ d = q := fun e => im0 (by rw [← hq, ← e, a1]; exact hd)
  exact ⟨by rw [hK_nN, if_neg this, a1], by rw [hL_nN, if_neg this, a2], fun j => by rw [hI_nN, if_neg this, a3], fun j => by rw [hR_nN, if_neg this, a4]⟩
/-- the cells of the object x that hold ints, by kind; q: a row that is being filled -/
def xc (h0 : Hp) (x q k : Nat) : Nat := match k with
  | 7 => x
  | 1 => hR h0 x 0
  | 21 => hR h0 (hR h0 x 0) 0
  | 6 => hR h0 x 1
  | 35 => hR h0 (hR h0 x 1) 0
  | 36 => hR h0 (hR h0 x 1) 1
  | 5 => hR h0 x 5
  | 37 => hR h0 x 6
  | 38 => hR h0 x 7
  | 39 => hR h0 x 8
  | _ => q
def xk (k : Nat) : Bool := k == 7 || k == 1 || k == 21 || k == 6 || k == 35 || k == 36 || k == 5 || k == 37 || k == 38 || k == 39
def xl (k : Nat) : Nat := if k = 21 then 60 else if k = 35 then 174 else 29
def XS (h : Hp) (x : Nat) : Prop := (∀ k, xk k = true → hK h (xc h x 0 k) = k) ∧ ∀ k, (k = 21 ∨ k = 35 ∨ k = 36 ∨ k = 37 ∨ k = 38 ∨ k = 39) → hL h (xc h x 0 k) = xl k
theorem xk_20 : xk 20 = false := rfl
theorem xk_0 : xk 0 = false := rfl
theorem xc_q {h0 : Hp} {x k : Nat} (q : Nat) (hk : xk k = true) : xc h0 x q k = xc h0 x 0 k := by
  unfold xk at hk
  simp only [Bool.or_eq_true, beq_iff_eq] at hk
  rcases hk with ((((((((e | e) | e) | e) | e) | e) | e) | e) | e) | e <;> subst e <;> rfl
def XF (h0 : Hp) (x q : Nat) (h : Hp) : Prop := (∀ c, hK h c = hK h0 c) ∧ (∀ c, hL h c = hL h0 c) ∧ (∀ c i, hR h c i = hR h0 c i) ∧ ∀ c, (∀ k, (xk k = true ∨ k = 20) → c ≠ xc h0 x q k) → ∀ i, hI h c i = hI h0 c i
/-- the class's object x holds φ, by kind and place -/
def XB (h0 : Hp) (x q : Nat) (φ : Nat → Nat → Int32) (h : Hp) : Prop :=
  XS h0 x ∧ xk (hK h0 q) = false ∧ (∀ k, (xk k = true ∨ k = 20) → ∀ i, hI h (xc h0 x q k) i = φ k i) ∧ XF h0 x q h
section XBs
variable {h0 h : Hp} {x q : Nat} {φ : Nat → Nat → Int32}
theorem XB.of (s : XS h x) (hq : xk (hK h q) = false) : XB h x q (fun k i => hI h (xc h x q k) i) h :=
  ⟨s, hq, fun _ _ _ => rfl, fun _ => rfl, fun _ => rfl, fun _ _ => rfl, fun _ _ _ => rfl⟩
theorem XB.dist (y : XB h0 x q φ h) {k l : Nat} (hk : xk k = true ∨ k = 20) (hl : xk l = true ∨ l = 20) (e : xc h0 x q k = xc h0 x q l) : k = l := by
  have key : ∀ k l, xk k = true → l = 20 → xc h0 x q k = xc h0 x q l → False := fun k l hk hl e => by
    have a := y.1.1 k hk
    rw [← xc_q q hk, e, hl] at a
    have b := y.2.1
    rw [show xc h0 x q 20 = q from rfl] at a
    rw [a, hk] at b
    cases b
  rcases hk with hk | hk
  · rcases hl with hl | hl
    · have a := y.1.1 k hk
      have b := y.1.1 l hl
      rw [← xc_q q hk] at a
      rw [← xc_q q hl, ← e] at b
      omega
    · exact (key k l hk hl e).elim
  · rcases hl with hl | hl
    · exact (key l k hl hk e.symm).elim
    · omega
theorem XB.put (y : XB h0 x q φ h) (k : Nat) (hk : xk k = true ∨ k = 20) {i : Nat} {v : Int32} {h1 : Hp} (e : h1 = sI h (xc h0 x q k) i v) : XB h0 x q (up φ k i v) h1 := by
  subst e
  refine ⟨y.1, y.2.1, fun l hl j => ?_, y.2.2.2.1, y.2.2.2.2.1, y.2.2.2.2.2.1, fun c hc j => ?_⟩
  · rw [hI_sI, y.2.2.1 l hl]
    by_cases e : l = k
    · subst e; simp only [up, true_and]
    · rw [if_neg (fun z => e (y.dist hl hk z.1)), up_f e]
  · rw [hI_sI, if_neg (fun z => hc k hk z.1)]
    exact y.2.2.2.2.2.2 c hc j
theorem XB.K (y : XB h0 x q φ h) (k : Nat) (hk : xk k = true) : hK h (xc h0 x 0 k) = k := (y.2.2.2.1 _).trans (y.1.1 k hk)
theorem XB.L (y : XB h0 x q φ h) (k : Nat) (hk : k = 21 ∨ k = 35 ∨ k = 36 ∨ k = 37 ∨ k = 38 ∨ k = 39) : hL h (xc h0 x 0 k) = xl k := (y.2.2.2.2.1 _).trans (y.1.2 k hk)
theorem XB.I (y : XB h0 x q φ h) (k : Nat) (hk : xk k = true) (i : Nat) : hI h (xc h0 x 0 k) i = φ k i := by rw [← xc_q q hk]; exact y.2.2.1 k (Or.inl hk) i
theorem XB.Iq (y : XB h0 x q φ h) (i : Nat) : hI h q i = φ 20 i := y.2.2.1 20 (Or.inr rfl) i
/-- all at once, for simp -/
theorem XB.s (y : XB h0 x q φ h) : (∀ c f, hR h c f = hR h0 c f) ∧
    (hK h x = 7 ∧ hK h (hR h0 x 0) = 1 ∧ hK h (hR h0 (hR h0 x 0) 0) = 21 ∧ hK h (hR h0 x 1) = 6 ∧ hK h (hR h0 (hR h0 x 1) 0) = 35 ∧ hK h (hR h0 (hR h0 x 1) 1) = 36 ∧ hK h (hR h0 x 5) = 5 ∧ hK h (hR h0 x 6) = 37 ∧ hK h (hR h0 x 7) = 38 ∧ hK h (hR h0 x 8) = 39) ∧
    (hL h (hR h0 (hR h0 x 0) 0) = 60 ∧ hL h (hR h0 (hR h0 x 1) 0) = 174 ∧ hL h (hR h0 (hR h0 x 1) 1) = 29 ∧ hL h (hR h0 x 6) = 29 ∧ hL h (hR h0 x 7) = 29 ∧ hL h (hR h0 x 8) = 29) ∧
    ((∀ i, hI h x i = φ 7 i) ∧ (∀ i, hI h (hR h0 x 0) i = φ 1 i) ∧ (∀ i, hI h (hR h0 (hR h0 x 0) 0) i = φ 21 i) ∧ (∀ i, hI h (hR h0 x 1) i = φ 6 i) ∧ (∀ i, hI h (hR h0 (hR h0 x 1) 0) i = φ 35 i) ∧ (∀ i, hI h (hR h0 (hR h0 x 1) 1) i = φ 36 i) ∧ (∀ i, hI h (hR h0 x 5) i = φ 5 i) ∧ (∀ i, hI h (hR h0 x 6) i = φ 37 i) ∧ (∀ i, hI h (hR h0 x 7) i = φ 38 i) ∧ (∀ i, hI h (hR h0 x 8) i = φ 39 i)) :=
  ⟨y.2.2.2.2.2.1, ⟨y.K 7 rfl, y.K 1 rfl, y.K 21 rfl, y.K 6 rfl, y.K 35 rfl, y.K 36 rfl, y.K 5 rfl, y.K 37 rfl, y.K 38 rfl, y.K 39 rfl⟩,
    ⟨y.L 21 (by decide), y.L 35 (by decide), y.L 36 (by decide), y.L 37 (by decide), y.L 38 (by decide), y.L 39 (by decide)⟩,
    ⟨y.I 7 rfl, y.I 1 rfl, y.I 21 rfl, y.I 6 rfl, y.I 35 rfl, y.I 36 rfl, y.I 5 rfl, y.I 37 rfl, y.I 38 rfl, y.I 39 rfl⟩⟩
/-- what never changes stays -/
theorem XB.fr (y : XB h0 x q φ h) {hb : Hp} (f : FR hb h0) (hq : ¬ im (hK hb q)) (s : ∀ k, xk k = true → ¬ im (hK hb (xc h0 x 0 k))) : FR hb h := by
  refine f.tr' (fun c hc => ?_)
  refine ⟨y.2.2.2.1 c, y.2.2.2.2.1 c, y.2.2.2.2.2.2 c (fun k hk e => ?_), y.2.2.2.2.2.1 c⟩
  rcases hk with hk | hk
  · exact s k hk (by rw [← xc_q q hk, ← e]; exact hc)
  · subst hk; exact hq (by rw [show q = xc h0 x q 20 from rfl, ← e]; exact hc)
end XBs
