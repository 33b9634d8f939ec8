/-! the reference's calls: what is told of jobs, what is missing -/
def jlen (ρ : Row) (j : Nat) : Nat := ix (jb ρ j 6)
def JT (ρ : Row) (j : Nat) : Prop := jb ρ j 6 = nI (jlen ρ j) ∧ FF (jtx ρ j) (jlen ρ j)
def lkF (ρ : Row) (nc j s : Nat) : Int32 := if ndF ρ nc j (jlen ρ j) s ≤ thr ρ nc j s then 0 else ndF ρ nc j (jlen ρ j) s - thr ρ nc j s
def sp_need (ρ : Row) (nc : Nat) (a s : Int32) : Ans := if badJ ρ a ∨ badS s then no (-1) else no (ndF ρ nc (ix a) (jlen ρ (ix a)) (ix s))
def sp_missing (ρ : Row) (nc : Nat) (a s : Int32) : Ans := if badJ ρ a ∨ badS s then no (-1) else no (lkF ρ nc (ix a) (ix s))
def jL (ρ : Row) (j : Nat) : LySt := jlay ρ j (jlen ρ j)
def sp_job (ρ : Row) (nc : Nat) (a w : Int32) : Ans := if badJ ρ a then no (-1) else
  if w.toInt = 0 then no (jb ρ (ix a) 0) else if w.toInt = 1 then no (jb ρ (ix a) 1) else if w.toInt = 2 then no (jb ρ (ix a) 2) else if w.toInt = 3 then no (jb ρ (ix a) 3) else
  if w.toInt = 4 then no (nI (jL ρ (ix a)).1.1) else if w.toInt = 5 then no (nI (jL ρ (ix a)).1.2.1) else if w.toInt = 6 then no (nI (jL ρ (ix a)).1.2.2.1) else
  if w.toInt = 7 then no (formeN ρ nc (ix a)) else if w.toInt = 8 then no (formeO ρ nc (ix a)) else if w.toInt = 9 then no (jb ρ (ix a) 4) else if w.toInt = 10 then no (jb ρ (ix a) 5) else no (-2)
def badLn (ρ : Row) (j : Nat) (l : Int32) : Prop := l < 0 ∨ nI (jL ρ j).1.1 - 1 < l
def gapN (ρ : Row) (j l : Nat) : Int32 := nI ((jL ρ j).2.2.2.1 (l + 1)) - nI ((jL ρ j).2.2.2.1 l)
def sp_gap (ρ : Row) (a l g : Int32) : Ans := if badJ ρ a then no (-1) else if (l < 0 ∨ nI (jL ρ (ix a)).1.1 - 1 < l) ∨ g < 0 ∨ ¬ g < gapN ρ (ix a) (ix l) then no (-5) else no ((jL ρ (ix a)).2.2.2.2 ((jL ρ (ix a)).2.2.2.1 (ix l) + ix g))
def lkN (ρ : Row) (nc j : Nat) : Int32 := sm 29 (lkF ρ nc j)
def sp_castMissing (ρ : Row) (nc : Nat) (a : Int32) : Ans := if badJ ρ a then no (-1) else if jb ρ (ix a) 3 = 0 then (if lkN ρ nc (ix a) = 0 then no (-5) else castW ρ (ix (jb ρ (ix a) 0)) (lkF ρ nc (ix a)) (lkN ρ nc (ix a))) else no (-4)
theorem lyL_FG_mono {tx : Nat → Int32} {meas : Int32} {len : Nat} : ∀ i l, l ≤ (lyI tx meas len i).2.1.1 → 0 < (lyI tx meas len i).2.1.1 → (lyI tx meas len i).2.2.2.2.1 l ≤ (lyI tx meas len i).2.1.2.2.1 := by
  intro i
  induction i with
  | zero => intro l _ h; exact absurd h (Nat.lt_irrefl 0)
  | succ i ih =>
    intro l
    unfold lyI
    by_cases e : i = len ∨ tx i = 47
    · rw [if_pos e]
      intro hl _
      have hl' : l ≤ (lyI tx meas len i).2.1.1 + 1 := hl
      show (if l = (lyI tx meas len i).2.1.1 + 1 then (lyI tx meas len i).2.1.2.2.1 + gc _ else if l = (lyI tx meas len i).2.1.1 then (lyI tx meas len i).2.1.2.2.1 else (lyI tx meas len i).2.2.2.2.1 l) ≤ (lyI tx meas len i).2.1.2.2.1 + gc _
      by_cases a : l = (lyI tx meas len i).2.1.1 + 1
      · rw [if_pos a]; exact Nat.le_refl _
      · rw [if_neg a]
        by_cases b : l = (lyI tx meas len i).2.1.1
        · rw [if_pos b]; omega
        · rw [if_neg b]
          have := ih l (by omega) (by omega)
          omega
    · rw [if_neg e]; exact ih l
section MJOBS
variable {h0 h : Hp} {m : Nat} {σ : Nat → Nat → Int32} {K : Int32 → Hp → Prop} {k : Nat}
theorem jL_pos (ρ : Row) (j : Nat) : 0 < (jL ρ j).1.1 := by
  unfold jL jlay
  rw [lay_last]
  exact Nat.succ_pos _
theorem jL_FG (ρ : Row) (j l : Nat) (hl : l ≤ (jL ρ j).1.1) : (jL ρ j).2.2.2.1 l ≤ (jL ρ j).1.2.2.1 := lyL_FG_mono _ l hl (jL_pos ρ j)
theorem toInt_eq {w v : Int32} (h : w.toInt = v.toInt) : w = v := Int32.toInt_inj.mp h
end MJOBS
