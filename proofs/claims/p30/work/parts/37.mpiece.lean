/-! the reference's calls: the piece at a place -/
theorem lyI_line {tx : Nat → Int32} {meas : Int32} {len : Nat} : ∀ i, i ≤ len + 1 → (lyI tx meas len i).1 ≤ i ∧ ∀ l, l < (lyI tx meas len i).2.1.1 → (lyI tx meas len i).2.2.1 l ≤ (lyI tx meas len i).2.2.2.1 l ∧ (lyI tx meas len i).2.2.2.1 l ≤ len ∧
    (lyI tx meas len i).2.2.2.2.1 l + gc (cB tx ((lyI tx meas len i).2.2.1 l) ((lyI tx meas len i).2.2.2.1 l - (lyI tx meas len i).2.2.1 l)) = (lyI tx meas len i).2.2.2.2.1 (l + 1) := by
  intro i
  induction i with
  | zero => intro _; exact ⟨Nat.le_refl _, fun l hl => absurd hl (Nat.not_lt_zero _)⟩
  | succ i ih =>
    intro hi
    obtain ⟨h1, h2⟩ := ih (by omega)
    have hFG := lyI_FG (tx := tx) (meas := meas) (len := len) i
    unfold lyI
    by_cases e : i = len ∨ tx i = 47
    · rw [if_pos e]
      refine ⟨Nat.le_refl _, fun l hl => ?_⟩
      have hl' : l < (lyI tx meas len i).2.1.1 + 1 := hl
      show (if l = (lyI tx meas len i).2.1.1 then (lyI tx meas len i).1 else (lyI tx meas len i).2.2.1 l) ≤ (if l = (lyI tx meas len i).2.1.1 then i else (lyI tx meas len i).2.2.2.1 l) ∧ (if l = (lyI tx meas len i).2.1.1 then i else (lyI tx meas len i).2.2.2.1 l) ≤ len ∧
        (if l = (lyI tx meas len i).2.1.1 + 1 then (lyI tx meas len i).2.1.2.2.1 + gc (cB tx (lyI tx meas len i).1 (i - (lyI tx meas len i).1)) else if l = (lyI tx meas len i).2.1.1 then (lyI tx meas len i).2.1.2.2.1 else (lyI tx meas len i).2.2.2.2.1 l) + gc (cB tx (if l = (lyI tx meas len i).2.1.1 then (lyI tx meas len i).1 else (lyI tx meas len i).2.2.1 l) ((if l = (lyI tx meas len i).2.1.1 then i else (lyI tx meas len i).2.2.2.1 l) - (if l = (lyI tx meas len i).2.1.1 then (lyI tx meas len i).1 else (lyI tx meas len i).2.2.1 l))) =
        (if l + 1 = (lyI tx meas len i).2.1.1 + 1 then (lyI tx meas len i).2.1.2.2.1 + gc (cB tx (lyI tx meas len i).1 (i - (lyI tx meas len i).1)) else if l + 1 = (lyI tx meas len i).2.1.1 then (lyI tx meas len i).2.1.2.2.1 else (lyI tx meas len i).2.2.2.2.1 (l + 1))
      by_cases el : l = (lyI tx meas len i).2.1.1
      · rw [if_pos el, if_pos el, if_neg (show ¬ l = (lyI tx meas len i).2.1.1 + 1 by omega), if_pos el, if_pos (show l + 1 = (lyI tx meas len i).2.1.1 + 1 by omega)]
        exact ⟨h1, by omega, rfl⟩
      · obtain ⟨p1, p2, p3⟩ := h2 l (by omega)
        rw [if_neg el, if_neg el, if_neg (show ¬ l = (lyI tx meas len i).2.1.1 + 1 by omega), if_neg el, if_neg (show ¬ l + 1 = (lyI tx meas len i).2.1.1 + 1 by omega)]
        refine ⟨p1, p2, ?_⟩
        rw [p3]
        by_cases e3 : l + 1 = (lyI tx meas len i).2.1.1
        · rw [if_pos e3, e3]; exact hFG (by omega)
        · rw [if_neg e3]
    · rw [if_neg e]
      exact ⟨by omega, h2⟩
theorem jL_line (ρ : Row) (j l : Nat) (hl : l < (jL ρ j).1.1) : (jL ρ j).2.1 l ≤ (jL ρ j).2.2.1 l ∧ (jL ρ j).2.2.1 l ≤ jlen ρ j ∧ (jL ρ j).2.2.2.1 l + gc (cB (jtx ρ j) ((jL ρ j).2.1 l) ((jL ρ j).2.2.1 l - (jL ρ j).2.1 l)) = (jL ρ j).2.2.2.1 (l + 1) :=
  (lyI_line (tx := jtx ρ j) (meas := jb ρ j 1) (len := jlen ρ j) (jlen ρ j + 1) (Nat.le_refl _)).2 l hl
theorem cB_front (tx : Nat → Int32) (i d : Nat) : cB tx i (d + 1) = (if isL (tx i) then 0 else 1) + cB tx (i + 1) d := by
  have := cB_app tx i 1 d
  rw [show 1 + d = d + 1 by omega] at this
  rw [this]
  show 0 + (if isL (tx (i + 0)) then 0 else 1) + _ = _
  rw [Nat.zero_add]
  rfl
theorem gc_ge (B : Nat) : B ≤ gc B := by
  unfold gc
  split <;> omega
/-- how many spaces, which space is the p-th, of a fill -/
def spN (v : Int32) : Int32 := ((v / 1000000) + ((v / 1000) - (v / 1000) / 1000 * 1000)) + (v - v / 1000 * 1000)
def spA (v p : Int32) : Int32 := if v / 1000000 ≤ p then (if (v / 1000000) + ((v / 1000) - (v / 1000) / 1000 * 1000) ≤ p then (if spN v ≤ p then -5 else 49) else 50) else 52
def pcW (tx : Nat → Int32) (F : Nat → Int32) (G : Nat) : Nat → Int32 → Nat → Nat → Int32
  | 0, p, g, _ => if G ≤ g then -5 else spA (F g) p
  | d + 1, p, g, i => if isL (tx i) then (if p = 0 then tx i else pcW tx F G d (p + (-1)) g (i + 1)) else if spN (F g) ≤ p then pcW tx F G d (p - spN (F g)) (g + 1) (i + 1) else spA (F g) p
def sp_pieceAt (ρ : Row) (a l p : Int32) : Ans := if badJ ρ a then no (-1) else if ¬ (jb ρ (ix a) 3 = 1 ∨ jb ρ (ix a) 3 = 2) then no (-4) else if (l < 0 ∨ nI (jL ρ (ix a)).1.1 - 1 < l) ∨ ¬ 0 ≤ p then no (-5) else
  no (pcW (jtx ρ (ix a)) (fun g => jb ρ (ix a) (241 + g)) ((jL ρ (ix a)).2.2.2.1 (ix l + 1)) ((jL ρ (ix a)).2.2.1 (ix l) - (jL ρ (ix a)).2.1 (ix l)) p ((jL ρ (ix a)).2.2.2.1 (ix l)) ((jL ρ (ix a)).2.1 (ix l)))
section MPIECE
variable {h0 h : Hp} {m : Nat} {σ : Nat → Nat → Int32} {K : Int32 → Hp → Prop} {k : Nat}
end MPIECE
