/-! what the calls answer, and what they make of the row: words over rows alone -/
abbrev Row : Type := Nat → Int32
def ur (ρ : Row) (i : Nat) (v : Int32) : Row := fun x => if x = i then v else ρ x
theorem ur_s (ρ : Row) (i : Nat) (v : Int32) : ur ρ i v i = v := if_pos rfl
theorem ur_n {ρ : Row} {i : Nat} {v : Int32} {x : Nat} (h : x ≠ i) : ur ρ i v x = ρ x := if_neg h
theorem up0 (σ : Nat → Nat → Int32) (i : Nat) (v : Int32) : up σ 0 i v 0 = ur (σ 0) i v := by
  funext x
  simp only [up, ur, true_and]
/-- an answer; if the call is an act that is done: what the row is then -/
abbrev Ans : Type := Int32 × Option (Row → Prop)
def no (r : Int32) : Ans := (r, none)
def did (r : Int32) (P : Row → Prop) : Ans := (r, some P)
abbrev badC (ρ : Row) (a : Int32) : Prop := a < 0 ∨ ρ 0 - 1 < a
abbrev badJ (ρ : Row) (a : Int32) : Prop := a < 0 ∨ ρ 1 - 1 < a
abbrev badS (a : Int32) : Prop := a < 0 ∨ 28 < a
/-- a place of a job; pieces of its forme -/
def jb (ρ : Row) (j w : Nat) : Int32 := ρ (211 + 272 * j + w)
def fm (ρ : Row) (j c s : Nat) : Int32 := ρ (211 + 272 * j + (67 + 29 * c + s))
def sp_buy (ρ : Row) (a : Int32) : Ans := if a < 1 ∨ 20000 < a then no (-2) else if ρ 2 + a ≤ 100000 then did (ρ 2 + a) (fun ρ' => ρ' = ur (ur ρ 2 (ρ 2 + a)) 4 (ρ 4 + a)) else no (-3)
def sp_addCase (ρ : Row) : Ans := if ρ 0 = 6 then no (-3) else did (ρ 0) (fun ρ' => ρ' = ur ρ 0 (ρ 0 + 1))
/-- w s pieces of each sort s come into the case c -/
def castA (ρ : Row) (c : Nat) (w : Nat → Int32) : Row := fun x => if 8 + 29 * c ≤ x ∧ x < 8 + 29 * c + 29 then ρ x + w (x - (8 + 29 * c)) else if x = 2 then ρ 2 - sm 29 (fun s => w s * wd s) else if x = 6 then ρ 6 + sm 29 w else ρ x
def anyFull (ρ : Row) (c : Nat) (w : Nat → Int32) : Bool := (List.range 29).any (fun s => decide (99 < ρ (8 + 29 * c + s) + w s))
def castW (ρ : Row) (c : Nat) (w : Nat → Int32) (r : Int32) : Ans := if anyFull ρ c w = true then no (-3) else if sm 29 (fun s => w s * wd s) ≤ ρ 2 then did r (fun ρ' => ρ' = castA ρ c w) else no (-4)
def sp_cast (ρ : Row) (b s n : Int32) : Ans := if badC ρ b ∨ badS s then no (-1) else if n < 1 ∨ 99 < n then no (-2) else castW ρ (ix b) (fun t => if t = ix s then n else 0) (ρ (8 + 29 * ix b + ix s) + n)
def fount (n : Int32) (s : Nat) : Int32 := if s < 26 then n else 2 * n
def sp_castFount (ρ : Row) (b n : Int32) : Ans := if badC ρ b then no (-1) else if n < 1 ∨ 9 < n then no (-2) else castW ρ (ix b) (fount n) (32 * n)
def sp_melt (ρ : Row) (b s n : Int32) : Ans := if badC ρ b ∨ badS s then no (-1) else if n < 1 ∨ 99 < n then no (-2) else if n ≤ ρ (8 + 29 * ix b + ix s) then did (ρ 2 + n * wd (ix s)) (fun ρ' => ρ' = ur (ur (ur ρ (8 + 29 * ix b + ix s) (ρ (8 + 29 * ix b + ix s) - n)) 2 (ρ 2 + n * wd (ix s))) 7 (ρ 7 + n)) else no (-4)
def boxN (ρ : Row) : Int32 := sm 29 (fun s => ρ (182 + s))
def boxM (ρ : Row) : Int32 := sm 29 (fun s => ρ (182 + s) * wd s)
def sp_meltBox (ρ : Row) : Ans := if boxN ρ = 0 then no (-5) else did (boxM ρ - boxM ρ / 50) (fun ρ' => ρ' = fun x => if 182 ≤ x ∧ x < 211 then 0 else if x = 5 then ρ 5 + boxM ρ / 50 else if x = 2 then ρ 2 + (boxM ρ - boxM ρ / 50) else if x = 7 then ρ 7 + boxN ρ else ρ x)
def sp_pass (ρ : Row) (a : Int32) : Ans := if a < 1 ∨ 30 < a then no (-2) else did (ρ 3 + a) (fun ρ' => ρ' = ur ρ 3 (ρ 3 + a))
def late (ρ : Row) (j : Nat) : Int32 := if 0 ≤ ρ 3 - jb ρ j 2 then ρ 3 - jb ρ j 2 else 0
def sp_print (ρ : Row) (a : Int32) : Ans := if badJ ρ a then no (-1) else if jb ρ (ix a) 3 = 1 then did (late ρ (ix a)) (fun ρ' => ρ' = ur (ur (ur ρ (211 + 272 * ix a + 3) 2) (211 + 272 * ix a + 4) (ρ 3)) (211 + 272 * ix a + 5) (late ρ (ix a))) else no (-4)
/-- what goes back to a case of the pieces of a forme that came from it; one of w is worn (0: none) -/
def back (ρ : Row) (j : Nat) (w : Int32) (c s : Nat) : Int32 := if 99 - ρ (8 + 29 * c + s) ≤ fm ρ j c s - (if w = 0 then 0 else fm ρ j c s / w) then 99 - ρ (8 + 29 * c + s) else fm ρ j c s - (if w = 0 then 0 else fm ρ j c s / w)
def tobox (ρ : Row) (j : Nat) (w : Int32) (c s : Nat) : Int32 := fm ρ j c s - back ρ j w c s
/-- the row behind goBack: ρ1 out of ρ -/
def Gone (ρ : Row) (nc j : Nat) (w : Int32) (ρ1 : Row) : Prop :=
  (∀ c s, c < 6 → s < 29 → ρ1 (8 + 29 * c + s) = if c < nc then ρ (8 + 29 * c + s) + back ρ j w c s else ρ (8 + 29 * c + s)) ∧
  (∀ s, s < 29 → ρ1 (182 + s) = ρ (182 + s) + sm nc (fun c => tobox ρ j w c s)) ∧
  (∀ c s, c < 6 → s < 29 → fm ρ1 j c s = if c < nc then 0 else fm ρ j c s) ∧
  ∀ x, (x < 8 ∨ (211 ≤ x ∧ (x < 211 + 272 * j + 67 ∨ 211 + 272 * j + 241 ≤ x))) → ρ1 x = ρ x
def goneN (ρ : Row) (nc j : Nat) (w : Int32) : Int32 := sm 29 (fun s => sm nc (fun c => tobox ρ j w c s))
def sp_distribute (ρ : Row) (nc : Nat) (a : Int32) : Ans := if badJ ρ a then no (-1) else if jb ρ (ix a) 3 = 2 then did (goneN ρ nc (ix a) 8) (Gone (ur ρ (211 + 272 * ix a + 3) 3) nc (ix a) 8) else no (-4)
def formeN (ρ : Row) (nc j : Nat) : Int32 := sm nc (fun c => sm 29 (fun s => fm ρ j c s))
def formeO (ρ : Row) (nc j : Nat) : Int32 := sm nc (fun c => sm 29 (fun s => if nI c = jb ρ j 0 then 0 else fm ρ j c s))
def sp_cancel (ρ : Row) (nc : Nat) (a : Int32) : Ans := if badJ ρ a then no (-1) else if jb ρ (ix a) 3 < 0 ∨ 1 < jb ρ (ix a) 3 then no (-4) else did (formeN ρ nc (ix a) - goneN ρ nc (ix a) 0) (Gone (ur ρ (211 + 272 * ix a + 3) 4) nc (ix a) 0)
def sp_pieces (ρ : Row) (b s : Int32) : Ans := if badS s then no (-1) else if b = -1 then no (ρ (182 + ix s)) else if badC ρ b then no (-1) else no (ρ (8 + 29 * ix b + ix s))
def sp_taken (ρ : Row) (a b s : Int32) : Ans := if badJ ρ a ∨ badC ρ b ∨ badS s then no (-1) else no (fm ρ (ix a) (ix b) (ix s))
def todo (ρ : Row) (j : Nat) : Prop := ¬ (jb ρ j 3 < 0 ∨ 1 < jb ρ j 3)
def urg (ρ : Row) : Nat → Int32
  | 0 => -5
  | j + 1 => if jb ρ j 3 < 0 ∨ 1 < jb ρ j 3 then urg ρ j else if urg ρ j = -5 then nI j else if jb ρ (ix (urg ρ j)) 2 ≤ jb ρ j 2 then urg ρ j else nI j
def caseM (ρ : Row) (nc : Nat) : Int32 := sm nc (fun c => sm 29 (fun s => ρ (8 + 29 * c + s) * wd s))
def formeM (ρ : Row) (nc nj : Nat) : Int32 := sm nj (fun j => sm nc (fun c => sm 29 (fun s => fm ρ j c s * wd s)))
def lateD (ρ : Row) (nj : Nat) : Int32 := sm nj (fun j => if jb ρ j 5 ≤ 0 then 0 else jb ρ j 5)
def pastD (ρ : Row) (nj : Nat) : Int32 := sm nj (fun j => if jb ρ j 3 < 0 ∨ 1 < jb ρ j 3 then 0 else if ρ 3 ≤ jb ρ j 2 then 0 else 1)
def sp_count (ρ : Row) (nc nj : Nat) (kept typed a : Int32) : Int32 :=
  if a.toInt = 0 then ρ 0 else if a.toInt = 1 then ρ 1 else if a.toInt = 2 then ρ 2 else if a.toInt = 3 then caseM ρ nc else if a.toInt = 4 then formeM ρ nc nj else if a.toInt = 5 then boxM ρ else if a.toInt = 6 then ρ 4 else if a.toInt = 7 then ρ 5 else if a.toInt = 8 then ρ 6 else if a.toInt = 9 then ρ 7 else if a.toInt = 10 then boxN ρ else if a.toInt = 11 then ρ 3 else if a.toInt = 12 then lateD ρ nj else if a.toInt = 13 then pastD ρ nj else if a.toInt = 14 then kept else if a.toInt = 15 then typed else -2
/-! σ' is σ behind an act; behind none -/
def Act (σ : Nat → Nat → Int32) (k : Nat) (P : Row → Prop) (σ' : Nat → Nat → Int32) : Prop :=
  P (σ' 0) ∧ σ' 2 0 = nI (rk k) ∧ (∀ i, i < rk k → ∀ x, x < 3475 → σ' 1 (3475 * i + x) = if i + 1 = rk k then σ 0 x else σ 1 (3475 * (i + if k = 5 then 1 else 0) + x)) ∧ ∀ f, 3 ≤ f → f ≤ 6 → σ' f = σ f
def Idle (σ σ' : Nat → Nat → Int32) : Prop := ∀ f, f ≤ 6 → σ' f = σ f
theorem Idle.rf {σ : Nat → Nat → Int32} : Idle σ σ := fun _ _ => rfl
theorem Act.of {σ σ1 σ2 : Nat → Nat → Int32} {k : Nat} {P : Row → Prop} (r : Rec σ k σ1) (h : ∀ f, 1 ≤ f → f ≤ 6 → σ2 f = σ1 f) (hP : P (σ2 0)) : Act σ k P σ2 :=
  ⟨hP, by rw [h 2 (by omega) (by omega)]; exact r.2.1, fun i hi x hx => by rw [h 1 (by omega) (by omega)]; exact r.2.2 i hi x hx, fun f h3 h6 => (h f (by omega) h6).trans (r.1 f (by omega) (by omega))⟩
