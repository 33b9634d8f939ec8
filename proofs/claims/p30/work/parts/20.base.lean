/-! numbers: indices and small values are nI of a Nat -/
theorem e8 (c s : Nat) : (8 + (29 * nI c)) + nI s = nI (8 + 29 * c + s) := by
  show (nI 8 + (nI 29 * nI c)) + nI s = _
  rw [pk_mul, nI_add, nI_add]
theorem e67 (c s : Nat) : (67 + (29 * nI c)) + nI s = nI (67 + 29 * c + s) := by
  show (nI 67 + (nI 29 * nI c)) + nI s = _
  rw [pk_mul, nI_add, nI_add]
theorem e211 (j w : Nat) : (211 + (272 * nI j)) + nI w = nI (211 + 272 * j + w) := by
  show (nI 211 + (nI 272 * nI j)) + nI w = _
  rw [pk_mul, nI_add, nI_add]
theorem e3475 (k x : Nat) : (3475 * nI k) + nI x = nI (3475 * k + x) := by
  show (nI 3475 * nI k) + nI x = _
  rw [pk_mul, nI_add]
theorem e29 (c s : Nat) : nI c * 29 + nI s = nI (29 * c + s) := by
  show (nI c * nI 29) + nI s = _
  rw [pk_mul, nI_add, Nat.mul_comm]
theorem eadd (k x : Nat) (v : Int32) (hv : v = nI k) : v + nI x = nI (k + x) := by rw [hv, nI_add]
theorem ix_nI {n : Nat} (h : n < 2 ^ 31) : ix (nI n) = n := nI_clamp h
theorem vin {n N : Nat} (h : n < N) (hN : N < 2 ^ 31) : vp_in (nI n) N := vp_in_nI h hN
/-- a number between 0 and N (N small) is nI of one below -/
theorem i_of {x : Int32} {N : Nat} (hN : N < 2 ^ 31) (h0 : ¬ x < 0) (h1 : ¬ nI N ≤ x) : ∃ n, n < N ∧ x = nI n := by
  rcases pk_ix x hN with h | h | h
  · exact absurd h h0
  · exact absurd h h1
  · exact h
/-! a place of a row is changed -/
def up (σ : Nat → Nat → Int32) (f i : Nat) (v : Int32) : Nat → Nat → Int32 := fun g j => if g = f ∧ j = i then v else σ g j
theorem up_s (σ : Nat → Nat → Int32) (f i : Nat) (v : Int32) : up σ f i v f i = v := if_pos ⟨rfl, rfl⟩
theorem up_f {σ : Nat → Nat → Int32} {f i : Nat} {v : Int32} {g j : Nat} (h : g ≠ f) : up σ f i v g j = σ g j := if_neg fun q => h q.1
theorem up_i {σ : Nat → Nat → Int32} {f i : Nat} {v : Int32} {g j : Nat} (h : j ≠ i) : up σ f i v g j = σ g j := if_neg fun q => h q.2
theorem up_e {σ : Nat → Nat → Int32} {f i : Nat} {v : Int32} {g j : Nat} : up σ f i v g j = if g = f ∧ j = i then v else σ g j := rfl
/-! sums -/
def sm (n : Nat) (f : Nat → Int32) : Int32 := match n with
  | 0 => 0
  | n + 1 => sm n f + f n
theorem sm0 (f : Nat → Int32) : sm 0 f = 0 := rfl
theorem smS (n : Nat) (f : Nat → Int32) : sm (n + 1) f = sm n f + f n := rfl
theorem sm_congr {n : Nat} {f g : Nat → Int32} (h : ∀ i, i < n → f i = g i) : sm n f = sm n g := by
  induction n with
  | zero => rfl
  | succ n ih => rw [smS, smS, ih (fun i hi => h i (by omega)), h n (by omega)]
theorem sm_zero {n : Nat} {f : Nat → Int32} (h : ∀ i, i < n → f i = 0) : sm n f = 0 := by
  induction n with
  | zero => rfl
  | succ n ih => rw [smS, ih (fun i hi => h i (by omega)), h n (by omega)]; rfl
theorem i_add_comm (a b : Int32) : a + b = b + a := Int32.add_comm a b
theorem sm_add (n : Nat) (f g : Nat → Int32) : sm n (fun i => f i + g i) = sm n f + sm n g := by
  induction n with
  | zero => rfl
  | succ n ih => rw [smS, smS, smS, ih]; ac_rfl
theorem sm_mul (n : Nat) (f : Nat → Int32) (c : Int32) : sm n (fun i => f i * c) = sm n f * c := by
  induction n with
  | zero => rw [sm0, sm0, Int32.zero_mul]
  | succ n ih => rw [smS, smS, ih, Int32.add_mul]
theorem sm_swap (n m : Nat) (f : Nat → Nat → Int32) : sm n (fun i => sm m (f i)) = sm m (fun j => sm n (fun i => f i j)) := by
  induction n with
  | zero => rw [sm0]; exact (sm_zero fun _ _ => rfl).symm
  | succ n ih => rw [smS, ih, ← sm_add]; rfl
/-- zeros behind don't count -/
theorem sm_ext {n m : Nat} {f : Nat → Int32} (h : n ≤ m) (hz : ∀ i, n ≤ i → i < m → f i = 0) : sm m f = sm n f := by
  induction m with
  | zero => rw [show n = 0 by omega]
  | succ m ih =>
    by_cases e : n = m + 1
    · rw [e]
    · rw [smS, ih (by omega) (fun i h1 h2 => hz i h1 (by omega)), hz m (by omega) (by omega), Int32.add_zero]
theorem sm_one {n k : Nat} {f : Nat → Int32} (hk : k < n) (hz : ∀ i, i < n → i ≠ k → f i = 0) : sm n f = f k := by
  induction n with
  | zero => omega
  | succ n ih =>
    by_cases e : k = n
    · subst e
      rw [smS, sm_zero (fun i hi => hz i (by omega) (by omega)), Int32.zero_add]
    · rw [smS, ih (by omega) (fun i h1 h2 => hz i (by omega) h2), hz n (by omega) (Ne.symm e), Int32.add_zero]
/-- widths -/
def wd (s : Nat) : Int32 := if s < 26 then 2 + nI (s % 5) else if s = 26 then 4 else if s = 27 then 2 else 1
/-! the reference's heap: its object m, its rows by field -/
def arf (f : Nat) : Bool := f == 0 || f == 1 || f == 3 || f == 6 || f == 8 || f == 12 || f == 13 || f == 14 || f == 15 || f == 17 || f == 18 || f == 19 || f == 20 || f == 21
def lenf (f : Nat) : Nat := match f with
  | 0 => 3475
  | 1 => 17375
  | 3 => 3475
  | 6 => 60
  | 8 => 60
  | 12 => 31
  | 13 => 31
  | 17 => 29
  | 18 => 29
  | _ => 32
/-- a kind of the reference's -/
def mk (k : Nat) : Prop := k = 8 ∨ 60 ≤ k
/-- only the reference's cells have changed, and no reference -/
def MF (h0 h : Hp) : Prop := (∀ c, hK h c = hK h0 c) ∧ (∀ c, hL h c = hL h0 c) ∧ (∀ c i, hR h c i = hR h0 c i) ∧ ∀ c, ¬ mk (hK h0 c) → ∀ i, hI h c i = hI h0 c i
section MBs
variable {h0 h : Hp} {m : Nat} {σ : Nat → Nat → Int32}
end MBs
/-! comparisons with literals -/
theorem c1 {i : Nat} (hi : i < 2 ^ 31) : (1 : Int32) ≤ nI i ↔ 1 ≤ i := nI_leI (a := 1) (by decide) hi
theorem q1 {i : Nat} (hi : i < 2 ^ 31) : nI i = (1 : Int32) ↔ i = 1 := nI_eq (b := 1) hi (by decide)
theorem c3 {i : Nat} (hi : i < 2 ^ 31) : (3 : Int32) ≤ nI i ↔ 3 ≤ i := nI_leI (a := 3) (by decide) hi
theorem q3 {i : Nat} (hi : i < 2 ^ 31) : nI i = (3 : Int32) ↔ i = 3 := nI_eq (b := 3) hi (by decide)
theorem c5 {i : Nat} (hi : i < 2 ^ 31) : (5 : Int32) ≤ nI i ↔ 5 ≤ i := nI_leI (a := 5) (by decide) hi
theorem q5 {i : Nat} (hi : i < 2 ^ 31) : nI i = (5 : Int32) ↔ i = 5 := nI_eq (b := 5) hi (by decide)
theorem c6 {i : Nat} (hi : i < 2 ^ 31) : (6 : Int32) ≤ nI i ↔ 6 ≤ i := nI_leI (a := 6) (by decide) hi
theorem q6 {i : Nat} (hi : i < 2 ^ 31) : nI i = (6 : Int32) ↔ i = 6 := nI_eq (b := 6) hi (by decide)
theorem c12 {i : Nat} (hi : i < 2 ^ 31) : (12 : Int32) ≤ nI i ↔ 12 ≤ i := nI_leI (a := 12) (by decide) hi
theorem q12 {i : Nat} (hi : i < 2 ^ 31) : nI i = (12 : Int32) ↔ i = 12 := nI_eq (b := 12) hi (by decide)
theorem c26 {i : Nat} (hi : i < 2 ^ 31) : (26 : Int32) ≤ nI i ↔ 26 ≤ i := nI_leI (a := 26) (by decide) hi
theorem q26 {i : Nat} (hi : i < 2 ^ 31) : nI i = (26 : Int32) ↔ i = 26 := nI_eq (b := 26) hi (by decide)
theorem c29 {i : Nat} (hi : i < 2 ^ 31) : (29 : Int32) ≤ nI i ↔ 29 ≤ i := nI_leI (a := 29) (by decide) hi
theorem q29 {i : Nat} (hi : i < 2 ^ 31) : nI i = (29 : Int32) ↔ i = 29 := nI_eq (b := 29) hi (by decide)
theorem c30 {i : Nat} (hi : i < 2 ^ 31) : (30 : Int32) ≤ nI i ↔ 30 ≤ i := nI_leI (a := 30) (by decide) hi
theorem q30 {i : Nat} (hi : i < 2 ^ 31) : nI i = (30 : Int32) ↔ i = 30 := nI_eq (b := 30) hi (by decide)
theorem c60 {i : Nat} (hi : i < 2 ^ 31) : (60 : Int32) ≤ nI i ↔ 60 ≤ i := nI_leI (a := 60) (by decide) hi
theorem q60 {i : Nat} (hi : i < 2 ^ 31) : nI i = (60 : Int32) ↔ i = 60 := nI_eq (b := 60) hi (by decide)
theorem c99 {i : Nat} (hi : i < 2 ^ 31) : (99 : Int32) ≤ nI i ↔ 99 ≤ i := nI_leI (a := 99) (by decide) hi
theorem q99 {i : Nat} (hi : i < 2 ^ 31) : nI i = (99 : Int32) ↔ i = 99 := nI_eq (b := 99) hi (by decide)
theorem c3475 {i : Nat} (hi : i < 2 ^ 31) : (3475 : Int32) ≤ nI i ↔ 3475 ≤ i := nI_leI (a := 3475) (by decide) hi
theorem q3475 {i : Nat} (hi : i < 2 ^ 31) : nI i = (3475 : Int32) ↔ i = 3475 := nI_eq (b := 3475) hi (by decide)
theorem c13900 {i : Nat} (hi : i < 2 ^ 31) : (13900 : Int32) ≤ nI i ↔ 13900 ≤ i := nI_leI (a := 13900) (by decide) hi
theorem q13900 {i : Nat} (hi : i < 2 ^ 31) : nI i = (13900 : Int32) ↔ i = 13900 := nI_eq (b := 13900) hi (by decide)
theorem q0 {i : Nat} (hi : i < 2 ^ 31) : nI i = (0 : Int32) ↔ i = 0 := nI_eq (b := 0) hi (by decide)
theorem c1v {i : Nat} (hi : i < 2 ^ 31) : nI i ≤ (1 : Int32) ↔ i ≤ 1 := nI_leI (b := 1) hi (by decide)
theorem c0 {i : Nat} (hi : i < 2 ^ 31) : (0 : Int32) ≤ nI i := nI_pos' hi
theorem cn0 {i : Nat} (hi : i < 2 ^ 31) : ¬ nI i < (0 : Int32) := nI_pos hi
theorem e182 (s : Nat) : 182 + nI s = nI (182 + s) := nI_add 182 s
theorem e7 (s : Nat) : 7 + nI s = nI (7 + s) := nI_add 7 s
theorem e241 (s : Nat) : 241 + nI s = nI (241 + s) := nI_add 241 s
