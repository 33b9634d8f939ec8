/-! the reference's calls: founts, the box, printing -/
def castP (ρ : Row) (c : Nat) (w : Nat → Int32) (i : Nat) : Row := fun x => if 8 + 29 * c ≤ x ∧ x < 8 + 29 * c + i then ρ x + w (x - (8 + 29 * c)) else if x = 2 then ρ 2 - sm i (fun s => w s * wd s) else if x = 6 then ρ 6 + sm i w else ρ x
theorem castP_0 (ρ : Row) (c : Nat) (w : Nat → Int32) : castP ρ c w 0 = ρ := by
  funext x
  unfold castP
  rw [if_neg (by omega), sm0, sm0, Int32.add_zero, Int32.sub_zero]
  by_cases h : x = 2
  · rw [if_pos h, h]
  · by_cases h6 : x = 6
    · rw [if_neg h, if_pos h6, h6]
    · rw [if_neg h, if_neg h6]
theorem i_sub_add (a b c : Int32) : a - b - c = a - (b + c) := by
  rw [Int32.sub_eq_add_neg, Int32.sub_eq_add_neg, Int32.sub_eq_add_neg, Int32.neg_add, Int32.sub_eq_add_neg, Int32.add_assoc]
theorem castP_S (ρ : Row) (c : Nat) (w : Nat → Int32) {i : Nat} (hi : i < 29) : castP ρ c w (i + 1) = fun y => if y = 8 + 29 * c + i then castP ρ c w i y + w i else if y = 2 then castP ρ c w i 2 - w i * wd i else if y = 6 then castP ρ c w i 6 + w i else castP ρ c w i y := by
  funext y
  unfold castP
  simp only [show ¬ (8 + 29 * c ≤ 2 ∧ 2 < 8 + 29 * c + i) by omega, show ¬ (8 + 29 * c ≤ 6 ∧ 6 < 8 + 29 * c + i) by omega, if_false, if_true, show ¬ (6 : Nat) = 2 by decide]
  by_cases a : y = 8 + 29 * c + i
  · rw [if_pos (by omega), if_pos a, if_neg (by omega), if_neg (by omega), if_neg (by omega), show y - (8 + 29 * c) = i by omega]
  · rw [if_neg a]
    by_cases b : 8 + 29 * c ≤ y ∧ y < 8 + 29 * c + i
    · rw [if_pos (by omega), if_neg (by omega), if_neg (by omega), if_pos b]
    · rw [if_neg (by omega), if_neg b]
      by_cases e : y = 2
      · rw [if_pos e, if_pos e, smS, i_sub_add]
      · rw [if_neg e, if_neg e]
        by_cases e6 : y = 6
        · rw [if_pos e6, if_pos e6, smS, Int32.add_assoc]
        · rw [if_neg e6, if_neg e6, if_neg e, if_neg e6]
def anyF (ρ : Row) (c : Nat) (w : Nat → Int32) (i : Nat) : Bool := (List.range i).any (fun s => decide (99 < ρ (8 + 29 * c + s) + w s))
theorem anyF_S (ρ : Row) (c : Nat) (w : Nat → Int32) (i : Nat) : anyF ρ c w (i + 1) = (anyF ρ c w i || decide (99 < ρ (8 + 29 * c + i) + w i)) := by
  unfold anyF
  rw [List.range_succ, List.any_append, List.any_cons, List.any_nil, Bool.or_false]
def b01 (b : Bool) : Int32 := if b = true then 1 else 0
section MPUB2
variable {h0 h : Hp} {m : Nat} {σ : Nat → Nat → Int32} {K : Int32 → Hp → Prop} {k : Nat}
end MPUB2
