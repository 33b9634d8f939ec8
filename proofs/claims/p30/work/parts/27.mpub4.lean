/-! the reference's calls: the box, pieces that go back, texts, history -/
section MPUB4
variable {h0 h : Hp} {m : Nat} {σ : Nat → Nat → Int32} {K : Int32 → Hp → Prop} {k : Nat}
/-! pieces that go back -/
theorem back_eq (n e v : Int32) : (if (99 - e) ≤ (n - v) then 99 - e else n - v) = if 99 - e ≤ n - v then 99 - e else n - v := rfl
/-- the row while goBack runs: the sorts below S are done, of S the cases below C -/
def Going (ρ : Row) (nc j : Nat) (w : Int32) (S C : Nat) (ρ1 : Row) : Prop :=
  (∀ c s, c < 6 → s < 29 → ρ1 (8 + 29 * c + s) = if c < nc ∧ s < S ∨ s = S ∧ c < C then ρ (8 + 29 * c + s) + back ρ j w c s else ρ (8 + 29 * c + s)) ∧
  (∀ s, s < 29 → ρ1 (182 + s) = if s < S then ρ (182 + s) + sm nc (fun c => tobox ρ j w c s) else if s = S then ρ (182 + s) + sm C (fun c => tobox ρ j w c s) else ρ (182 + s)) ∧
  (∀ c s, c < 6 → s < 29 → fm ρ1 j c s = if c < nc ∧ s < S ∨ s = S ∧ c < C then 0 else fm ρ j c s) ∧
  ∀ x, (x < 8 ∨ (211 ≤ x ∧ (x < 211 + 272 * j + 67 ∨ 211 + 272 * j + 241 ≤ x))) → ρ1 x = ρ x
theorem Going.step {ρ ρ1 : Row} {nc j S C : Nat} {w : Int32} (g : Going ρ nc j w S C ρ1) (hC : C < nc) (h6 : nc ≤ 6) (hS : S < 29) (hj : j < 12) :
    Going ρ nc j w S (C + 1) (ur (ur (ur ρ1 (8 + 29 * C + S) (ρ1 (8 + 29 * C + S) + back ρ j w C S)) (182 + S) (ρ1 (182 + S) + tobox ρ j w C S)) (211 + 272 * j + (67 + 29 * C + S)) 0) := by
  obtain ⟨g1, g2, g3, g4⟩ := g
  refine ⟨fun c s hc hs => ?_, fun s hs => ?_, fun c s hc hs => ?_, fun x hx => ?_⟩
  · rw [ur_n (by omega), ur_n (by omega)]
    by_cases e : c = C ∧ s = S
    · obtain ⟨rfl, rfl⟩ := e
      rw [ur_s, g1 c s hc hs, if_neg (by omega), if_pos (by omega)]
    · rw [ur_n (by omega), g1 c s hc hs]
      by_cases e2 : c < nc ∧ s < S ∨ s = S ∧ c < C
      · rw [if_pos e2, if_pos (by omega)]
      · rw [if_neg e2, if_neg (by omega)]
  · rw [ur_n (by omega)]
    by_cases e : s = S
    · subst e
      rw [ur_s, g2 s hs, if_neg (by omega), if_pos rfl, if_neg (by omega), if_pos rfl, smS, Int32.add_assoc]
    · rw [ur_n (by omega), ur_n (by omega), g2 s hs, if_neg e, if_neg e]
  · unfold fm
    by_cases e : c = C ∧ s = S
    · obtain ⟨rfl, rfl⟩ := e
      rw [ur_s, if_pos (by omega)]
    · rw [ur_n (by omega), ur_n (by omega), ur_n (by omega)]
      have := g3 c s hc hs
      unfold fm at this
      rw [this]
      by_cases e2 : c < nc ∧ s < S ∨ s = S ∧ c < C
      · rw [if_pos e2, if_pos (by omega)]
      · rw [if_neg e2, if_neg (by omega)]
  · rw [ur_n (by omega), ur_n (by omega), ur_n (by omega)]
    exact g4 x hx
theorem Going.next {ρ ρ1 : Row} {nc j S : Nat} {w : Int32} (g : Going ρ nc j w S nc ρ1) : Going ρ nc j w (S + 1) 0 ρ1 := by
  obtain ⟨g1, g2, g3, g4⟩ := g
  refine ⟨fun c s hc hs => ?_, fun s hs => ?_, fun c s hc hs => ?_, g4⟩
  · rw [g1 c s hc hs]
    by_cases e2 : c < nc ∧ s < S ∨ s = S ∧ c < nc
    · rw [if_pos e2, if_pos (by omega)]
    · rw [if_neg e2, if_neg (by omega)]
  · rw [g2 s hs]
    by_cases e : s < S
    · rw [if_pos e, if_pos (by omega)]
    · rw [if_neg e]
      by_cases e1 : s = S
      · subst e1; rw [if_pos rfl, if_pos (by omega)]
      · rw [if_neg e1, if_neg (by omega)]
        by_cases e2 : s = S + 1
        · rw [if_pos e2, sm0, Int32.add_zero]
        · rw [if_neg e2]
  · rw [g3 c s hc hs]
    by_cases e2 : c < nc ∧ s < S ∨ s = S ∧ c < nc
    · rw [if_pos e2, if_pos (by omega)]
    · rw [if_neg e2, if_neg (by omega)]
end MPUB4
