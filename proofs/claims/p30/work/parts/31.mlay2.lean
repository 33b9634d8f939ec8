/-! the reference lays a job, finds a fault -/
theorem lyI_FG {tx : Nat → Int32} {meas : Int32} {len : Nat} : ∀ i, 0 < (lyI tx meas len i).2.1.1 → (lyI tx meas len i).2.2.2.2.1 (lyI tx meas len i).2.1.1 = (lyI tx meas len i).2.1.2.2.1 := by
  intro i
  induction i with
  | zero => intro h; exact absurd h (Nat.lt_irrefl 0)
  | succ i ih =>
    unfold lyI
    by_cases e : i = len ∨ tx i = 47
    · rw [if_pos e]
      intro _
      show (if (lyI tx meas len i).2.1.1 + 1 = (lyI tx meas len i).2.1.1 + 1 then _ else _) = _
      rw [if_pos rfl]
      rfl
    · rw [if_neg e]; exact ih
theorem lyI_room {tx : Nat → Int32} {meas : Int32} {len : Nat} (h : FF tx len) {i : Nat} (hi : i ≤ len) : (lyI tx meas len i).1 ≤ i ∧ (lyI tx meas len i).2.1.1 ≤ 29 ∧ (lyI tx meas len i).2.1.2.2.1 + gc (cB tx (lyI tx meas len i).1 (i - (lyI tx meas len i).1)) ≤ 30 := by
  obtain ⟨h1, h2, h3⟩ := lyI_inv (meas := meas) h i hi
  have e2 : cB tx 0 i = cB tx 0 (lyI tx meas len i).1 + cB tx (lyI tx meas len i).1 (i - (lyI tx meas len i).1) := by
    have := cB_app tx 0 (lyI tx meas len i).1 (i - (lyI tx meas len i).1)
    rw [Nat.zero_add] at this
    rw [← this]
    congr 1
    omega
  have e3 := h.seps hi
  refine ⟨h1, by omega, ?_⟩
  unfold gc
  split <;> omega
/-- the first fault of the characters from i on, d of them left; want: a letter is due -/
def flt (tx : Nat → Int32) : Nat → Bool → Nat → Option Nat
  | 0, want, i => if want = true then some i else none
  | d + 1, want, i => if isL (tx i) then flt tx d false (i + 1) else if want = true ∨ ¬ (tx i = 32 ∨ tx i = 47) then some i else flt tx d true (i + 1)
theorem flt_none {tx : Nat → Int32} : ∀ (d : Nat) (want : Bool) (i : Nat), flt tx d want i = none → (d = 0 → want = false) ∧ (0 < d → isL (tx (i + d - 1))) ∧ ∀ x, i ≤ x → x < i + d → isL (tx x) ∨ ((tx x = 32 ∨ tx x = 47) ∧ (x = i → want = false) ∧ (i < x → isL (tx (x - 1)))) := by
  intro d
  induction d with
  | zero =>
    intro want i h
    refine ⟨fun _ => ?_, fun q => absurd q (Nat.lt_irrefl 0), fun x h1 h2 => by omega⟩
    cases want with
    | false => rfl
    | true => cases h
  | succ d ih =>
    intro want i h
    unfold flt at h
    by_cases hl : isL (tx i)
    · rw [if_pos hl] at h
      obtain ⟨g1, g2, g3⟩ := ih _ _ h
      refine ⟨fun q => by omega, fun _ => ?_, fun x h1 h2 => ?_⟩
      · by_cases e : d = 0
        · subst e; exact hl
        · have := g2 (by omega)
          rw [show i + (d + 1) - 1 = i + 1 + d - 1 by omega]; exact this
      · by_cases e : x = i
        · subst e; exact Or.inl hl
        · rcases g3 x (by omega) (by omega) with q | ⟨q1, q2, q3⟩
          · exact Or.inl q
          · refine Or.inr ⟨q1, fun q => absurd q e, fun _ => ?_⟩
            by_cases e2 : x = i + 1
            · rw [e2]; exact hl
            · exact q3 (by omega)
    · rw [if_neg hl] at h
      by_cases hw : want = true ∨ ¬ (tx i = 32 ∨ tx i = 47)
      · rw [if_pos hw] at h; cases h
      · rw [if_neg hw] at h
        obtain ⟨g1, g2, g3⟩ := ih _ _ h
        have hm : tx i = 32 ∨ tx i = 47 := Classical.byContradiction fun q => hw (Or.inr q)
        have hwf : want = false := by
          cases want with
          | false => rfl
          | true => exact absurd (Or.inl rfl) hw
        have hd : d ≠ 0 := fun q => by have := g1 q; cases this
        refine ⟨fun q => by omega, fun _ => ?_, fun x h1 h2 => ?_⟩
        · have := g2 (by omega)
          rw [show i + (d + 1) - 1 = i + 1 + d - 1 by omega]; exact this
        · by_cases e : x = i
          · subst e
            exact Or.inr ⟨hm, fun _ => hwf, fun q => absurd q (Nat.lt_irrefl _)⟩
          · rcases g3 x (by omega) (by omega) with q | ⟨q1, q2, q3⟩
            · exact Or.inl q
            · refine Or.inr ⟨q1, fun q => absurd q e, fun _ => ?_⟩
              by_cases e2 : x = i + 1
              · have := q2 e2; cases this
              · exact q3 (by omega)
theorem flt_FF {tx : Nat → Int32} {len : Nat} (hl : len ≤ 60) (h : flt tx len true 0 = none) : FF tx len := by
  obtain ⟨h1, h2, h3⟩ := flt_none len true 0 h
  have h0 : 0 < len := by
    by_cases e : len = 0
    · have := h1 e; cases this
    · omega
  refine ⟨h0, hl, ?_, fun x hx => ?_⟩
  · have := h2 h0; rw [Nat.zero_add] at this; exact this
  · rcases h3 x (Nat.zero_le _) (by omega) with q | ⟨q1, q2, q3⟩
    · exact Or.inl q
    · by_cases e : x = 0
      · have := q2 e; cases this
      · exact Or.inr ⟨q1, by omega, q3 (by omega)⟩
def fltR (o : Option Nat) (z : Int32) : Int32 := match o with
  | none => z
  | some x => nI x
/-- a job's text, its layout -/
def jtx (ρ : Row) (j : Nat) : Nat → Int32 := fun x => jb ρ j (7 + x)
def jlay (ρ : Row) (j len : Nat) : LySt := lay (jtx ρ j) (jb ρ j 1) len
section MLAY2
variable {h0 h : Hp} {m : Nat} {σ : Nat → Nat → Int32}
end MLAY2
