/-! what a job needs, what is there -/
def lst (a b : Int32) : Int32 := if b ≤ a then b else a
def thr (ρ : Row) (nc j s : Nat) : Int32 := sm nc (fun c => ρ (8 + 29 * c + s) + (if jb ρ j 3 = 1 ∨ jb ρ j 3 = 2 then fm ρ j c s else 0))
def nd (tx : Nat → Int32) (s : Nat) : Nat → Int32
  | 0 => 0
  | n + 1 => nd tx s n + (if isL (tx n) ∧ ix (tx n - 97) = s then 1 else 0)
/-- the spaces of 4, 2, 1 that fill the gaps ahead of the g-th -/
def fl (W : Nat → Int32) (A B : Int32) : Nat → Int32 × Int32 × Int32
  | 0 => (0, 0, 0)
  | g + 1 => ((fl W A B g).1 + lst (W g / 4) (A - (fl W A B g).1), (fl W A B g).2.1 + lst ((W g - 4 * lst (W g / 4) (A - (fl W A B g).1)) / 2) (B - (fl W A B g).2.1),
      (fl W A B g).2.2 + (W g - 4 * lst (W g / 4) (A - (fl W A B g).1) - 2 * lst ((W g - 4 * lst (W g / 4) (A - (fl W A B g).1)) / 2) (B - (fl W A B g).2.1)))
def f4 (W : Nat → Int32) (A B : Int32) (g : Nat) : Int32 := lst (W g / 4) (A - (fl W A B g).1)
def f2 (W : Nat → Int32) (A B : Int32) (g : Nat) : Int32 := lst ((W g - 4 * f4 W A B g) / 2) (B - (fl W A B g).2.1)
def f1 (W : Nat → Int32) (A B : Int32) (g : Nat) : Int32 := W g - 4 * f4 W A B g - 2 * f2 W A B g
theorem fl_S (W : Nat → Int32) (A B : Int32) (g : Nat) : fl W A B (g + 1) = ((fl W A B g).1 + f4 W A B g, (fl W A B g).2.1 + f2 W A B g, (fl W A B g).2.2 + f1 W A B g) := rfl
def jfl (ρ : Row) (nc j len : Nat) : Nat → Int32 × Int32 × Int32 := fl (jlay ρ j len).2.2.2.2 (thr ρ nc j 26) (thr ρ nc j 27)
def ndF (ρ : Row) (nc j len s : Nat) : Int32 := if s < 26 then nd (jtx ρ j) s len else if s = 26 then (jfl ρ nc j len (jlay ρ j len).1.2.2.1).1 else if s = 27 then (jfl ρ nc j len (jlay ρ j len).1.2.2.1).2.1 else (jfl ρ nc j len (jlay ρ j len).1.2.2.1).2.2
/-- behind layNeeds -/
def NRel (ρ : Row) (nc j len : Nat) (σ : Nat → Nat → Int32) : Prop :=
  (∀ s, s < 29 → σ 17 s = ndF ρ nc j len s ∧ σ 18 s = thr ρ nc j s) ∧ ∀ g, g < (jlay ρ j len).1.2.2.1 → σ 19 g = f4 (jlay ρ j len).2.2.2.2 (thr ρ nc j 26) (thr ρ nc j 27) g ∧ σ 20 g = f2 (jlay ρ j len).2.2.2.2 (thr ρ nc j 26) (thr ρ nc j 27) g ∧ σ 21 g = f1 (jlay ρ j len).2.2.2.2 (thr ρ nc j 26) (thr ρ nc j 27) g
theorem LRel.same {L : LySt} {σ σ1 : Nat → Nat → Int32} (h : LRel L σ) (e : ∀ f, 9 ≤ f → f ≤ 16 → σ1 f = σ f) : LRel L σ1 := by
  unfold LRel
  rw [e 9 (by decide) (by decide), e 10 (by decide) (by decide), e 11 (by decide) (by decide), e 16 (by decide) (by decide), e 12 (by decide) (by decide), e 13 (by decide) (by decide), e 14 (by decide) (by decide), e 15 (by decide) (by decide)]
  exact h
section MNEEDS
variable {h0 h : Hp} {m : Nat} {σ : Nat → Nat → Int32} {K : Hp → Prop}
theorem LT29 : vp_in 26 29 ∧ vp_in 27 29 ∧ vp_in 28 29 ∧ ix 26 = 26 ∧ ix 27 = 27 ∧ ix 28 = 28 := ⟨vin (n := 26) (by decide) (by decide), vin (n := 27) (by decide) (by decide), vin (n := 28) (by decide) (by decide), rfl, rfl, rfl⟩
end MNEEDS
