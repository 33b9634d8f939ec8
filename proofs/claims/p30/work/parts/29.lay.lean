/-! a text in lines and gaps: words over characters alone -/
abbrev isL (v : Int32) : Prop := ¬ (v < 97 ∨ 122 < v)
theorem isL_of {v : Int32} (h : isL v) : ∃ s, s < 26 ∧ v - 97 = nI s ∧ v = nI (97 + s) := by
  have h1 : ¬ v < 97 := fun q => h (Or.inl q)
  have h2 : ¬ 122 < v := fun q => h (Or.inr q)
  have h0 : ¬ v < 0 := fun q => h1 (by
    rw [Int32.lt_iff_toInt_lt] at q ⊢
    have e0 : (0 : Int32).toInt = 0 := by decide
    have e1 : (97 : Int32).toInt = 97 := by decide
    omega)
  obtain ⟨j, hj, rfl⟩ := nI_of h0
  rw [show (97 : Int32) = nI 97 from rfl, nI_ltI hj (by decide)] at h1
  rw [show (122 : Int32) = nI 122 from rfl, nI_ltI (by decide) hj] at h2
  refine ⟨j - 97, by omega, ?_, by congr 1; omega⟩
  show nI j - nI 97 = _
  exact pk_sub (by omega)
/-- letters, other characters, the letters' widths, of n characters from a on -/
def cL (tx : Nat → Int32) (a : Nat) : Nat → Nat
  | 0 => 0
  | n + 1 => cL tx a n + (if isL (tx (a + n)) then 1 else 0)
def cB (tx : Nat → Int32) (a : Nat) : Nat → Nat
  | 0 => 0
  | n + 1 => cB tx a n + (if isL (tx (a + n)) then 0 else 1)
def lw (v : Int32) : Int32 := wd (ix (v - 97))
def sW (tx : Nat → Int32) (a : Nat) : Nat → Int32
  | 0 => 0
  | n + 1 => sW tx a n + (if isL (tx (a + n)) then lw (tx (a + n)) else 0)
theorem cLB (tx : Nat → Int32) (a n : Nat) : cL tx a n + cB tx a n = n := by
  induction n with
  | zero => rfl
  | succ n ih =>
    unfold cL cB
    split <;> omega
theorem cB_le (tx : Nat → Int32) (a n : Nat) : cB tx a n ≤ n := by have := cLB tx a n; omega
theorem cB_app (tx : Nat → Int32) (a n k : Nat) : cB tx a (n + k) = cB tx a n + cB tx (a + n) k := by
  induction k with
  | zero => rfl
  | succ k ih =>
    show cB tx a (n + k) + (if isL (tx (a + (n + k))) then 0 else 1) = cB tx a n + (cB tx (a + n) k + (if isL (tx (a + n + k)) then 0 else 1))
    rw [ih, show a + (n + k) = a + n + k by omega]
    omega
theorem cL_congr {tx ty : Nat → Int32} {a n : Nat} (h : ∀ i, a ≤ i → i < a + n → tx i = ty i) : cL tx a n = cL ty a n := by
  induction n with
  | zero => rfl
  | succ n ih => unfold cL; rw [ih (fun i h1 h2 => h i h1 (by omega)), h (a + n) (by omega) (by omega)]
theorem cB_congr {tx ty : Nat → Int32} {a n : Nat} (h : ∀ i, a ≤ i → i < a + n → tx i = ty i) : cB tx a n = cB ty a n := by
  induction n with
  | zero => rfl
  | succ n ih => unfold cB; rw [ih (fun i h1 h2 => h i h1 (by omega)), h (a + n) (by omega) (by omega)]
theorem sW_congr {tx ty : Nat → Int32} {a n : Nat} (h : ∀ i, a ≤ i → i < a + n → tx i = ty i) : sW tx a n = sW ty a n := by
  induction n with
  | zero => rfl
  | succ n ih => unfold sW; rw [ih (fun i h1 h2 => h i h1 (by omega)), h (a + n) (by omega) (by omega)]
/-- how wide the k-th of g gaps is -/
def gw (rest : Int32) (g k : Nat) : Int32 := rest / nI g + (if rest - rest / nI g * nI g ≤ nI k then 0 else 1)
/-- lines, letters, gaps, too wide; where a line begins, ends; gaps ahead of a line; widths -/
abbrev LySt : Type := (Nat × Nat × Nat × Bool) × (Nat → Nat) × (Nat → Nat) × (Nat → Nat) × (Nat → Int32)
def gc (B : Nat) : Nat := if B = 0 then 1 else B
def lyL (tx : Nat → Int32) (meas : Int32) (a b : Nat) (L : LySt) : LySt :=
  ((L.1.1 + 1, L.1.2.1 + cL tx a (b - a), L.1.2.2.1 + gc (cB tx a (b - a)), L.1.2.2.2 || decide (meas - sW tx a (b - a) < nI (cB tx a (b - a)))),
    (fun l => if l = L.1.1 then a else L.2.1 l), (fun l => if l = L.1.1 then b else L.2.2.1 l), (fun l => if l = L.1.1 + 1 then L.1.2.2.1 + gc (cB tx a (b - a)) else if l = L.1.1 then L.1.2.2.1 else L.2.2.2.1 l),
    fun k => if L.1.2.2.1 ≤ k ∧ k < L.1.2.2.1 + gc (cB tx a (b - a)) then gw (meas - sW tx a (b - a)) (gc (cB tx a (b - a))) (k - L.1.2.2.1) else L.2.2.2.2 k)
def ly0 : LySt := ((0, 0, 0, false), fun _ => 0, fun _ => 0, fun _ => 0, fun _ => 0)
/-- behind the characters below i: where the present line begins, and what is laid -/
def lyI (tx : Nat → Int32) (meas : Int32) (len : Nat) : Nat → Nat × LySt
  | 0 => (0, ly0)
  | i + 1 => if i = len ∨ tx i = 47 then (i + 1, lyL tx meas (lyI tx meas len i).1 i (lyI tx meas len i).2) else lyI tx meas len i
def lay (tx : Nat → Int32) (meas : Int32) (len : Nat) : LySt := (lyI tx meas len (len + 1)).2
/-- a text without a fault -/
def FF (tx : Nat → Int32) (len : Nat) : Prop := 0 < len ∧ len ≤ 60 ∧ isL (tx (len - 1)) ∧ ∀ x, x < len → isL (tx x) ∨ ((tx x = 32 ∨ tx x = 47) ∧ 0 < x ∧ isL (tx (x - 1)))
theorem FF.half {tx : Nat → Int32} {len : Nat} (h : FF tx len) : ∀ i, i ≤ len → 2 * cB tx 0 i ≤ i ∧ (0 < i → isL (tx (i - 1)) → 2 * cB tx 0 i + 1 ≤ i) := by
  intro i
  induction i with
  | zero => intro _; exact ⟨Nat.le_refl _, fun h => absurd h (Nat.lt_irrefl 0)⟩
  | succ i ih =>
    intro hi
    obtain ⟨h1, h2⟩ := ih (by omega)
    have e : cB tx 0 (i + 1) = cB tx 0 i + (if isL (tx i) then 0 else 1) := by
      show cB tx 0 i + (if isL (tx (0 + i)) then 0 else 1) = _
      rw [Nat.zero_add]
    by_cases hl : isL (tx i)
    · rw [e, if_pos hl]
      exact ⟨by omega, fun _ _ => by omega⟩
    · rw [e, if_neg hl]
      rcases h.2.2.2 i (by omega) with q | ⟨-, q1, q2⟩
      · exact absurd q hl
      · have := h2 q1 q2
        exact ⟨by omega, fun _ q => absurd q hl⟩
theorem FF.seps {tx : Nat → Int32} {len : Nat} (h : FF tx len) {i : Nat} (hi : i ≤ len) : cB tx 0 i ≤ 29 := by
  have h1 := (h.half len (Nat.le_refl _)).2 h.1 h.2.2.1
  have h2 : cB tx 0 len = cB tx 0 i + cB tx (0 + i) (len - i) := by rw [← cB_app]; congr 1; omega
  have := h.2.1
  omega
theorem isL47 : ¬ isL 47 := by decide
/-- what holds while a text without a fault is laid -/
theorem lyI_inv {tx : Nat → Int32} {meas : Int32} {len : Nat} (h : FF tx len) : ∀ i, i ≤ len → (lyI tx meas len i).1 ≤ i ∧ (lyI tx meas len i).2.1.1 ≤ cB tx 0 (lyI tx meas len i).1 ∧ (lyI tx meas len i).2.1.2.2.1 ≤ cB tx 0 (lyI tx meas len i).1 := by
  intro i
  induction i with
  | zero => intro _; exact ⟨Nat.le_refl _, Nat.le_refl _, Nat.le_refl _⟩
  | succ i ih =>
    intro hi
    obtain ⟨h1, h2, h3⟩ := ih (by omega)
    unfold lyI
    by_cases e : i = len ∨ tx i = 47
    · rw [if_pos e]
      have h47 : tx i = 47 := e.elim (fun q => by omega) id
      have e1 : cB tx 0 (i + 1) = cB tx 0 i + 1 := by
        show cB tx 0 i + (if isL (tx (0 + i)) then 0 else 1) = _
        rw [Nat.zero_add, if_neg (by rw [h47]; exact isL47)]
      have e2 : cB tx 0 i = cB tx 0 (lyI tx meas len i).1 + cB tx (lyI tx meas len i).1 (i - (lyI tx meas len i).1) := by
        have := cB_app tx 0 (lyI tx meas len i).1 (i - (lyI tx meas len i).1)
        rw [Nat.zero_add] at this
        rw [← this]
        congr 1
        omega
      refine ⟨Nat.le_refl _, ?_, ?_⟩
      · show (lyI tx meas len i).2.1.1 + 1 ≤ cB tx 0 (i + 1)
        omega
      · show (lyI tx meas len i).2.1.2.2.1 + gc _ ≤ cB tx 0 (i + 1)
        unfold gc
        split <;> omega
    · rw [if_neg e]
      exact ⟨by omega, h2, h3⟩
theorem lay_last (tx : Nat → Int32) (meas : Int32) (len : Nat) : lay tx meas len = lyL tx meas (lyI tx meas len len).1 len (lyI tx meas len len).2 := by
  unfold lay
  show (if len = len ∨ tx len = 47 then _ else _ : Nat × LySt).2 = _
  rw [if_pos (Or.inl rfl)]
theorem lay_bound {tx : Nat → Int32} {meas : Int32} {len : Nat} (h : FF tx len) : (lay tx meas len).1.1 ≤ 30 ∧ (lay tx meas len).1.2.2.1 ≤ 30 := by
  obtain ⟨h1, h2, h3⟩ := lyI_inv (meas := meas) h len (Nat.le_refl _)
  have e2 : cB tx 0 len = cB tx 0 (lyI tx meas len len).1 + cB tx (lyI tx meas len len).1 (len - (lyI tx meas len len).1) := by
    have := cB_app tx 0 (lyI tx meas len len).1 (len - (lyI tx meas len len).1)
    rw [Nat.zero_add] at this
    rw [← this]
    congr 1
    omega
  have e3 := h.seps (Nat.le_refl _)
  rw [lay_last]
  refine ⟨?_, ?_⟩
  · show (lyI tx meas len len).2.1.1 + 1 ≤ 30
    omega
  · show (lyI tx meas len len).2.1.2.2.1 + gc _ ≤ 30
    unfold gc
    split <;> omega
