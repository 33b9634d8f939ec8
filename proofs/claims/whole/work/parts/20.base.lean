/-! numbers: indices and small values are nI of a Nat -/
theorem e8 (c s : Nat) : (8 + (29 * nI c)) + nI s = nI (8 + 29 * c + s) := by
  show (nI 8 + (nI 29 * nI c)) + nI s = _
  rw [pk_mul, nI_add, nI_add]
theorem e67 (c s : Nat) : (67 + (29 * nI c)) + nI s = nI (67 + 29 * c + s) := by
  show (nI 67 + (nI 29 * nI c)) + nI s = _
  rw [pk_mul, nI_add, nI_add]
theorem e211 (j w : Nat) : (211 + (272 * nI j)) + nI w = nI (211 + 272 * j + w) := by
  show (nI 211 + (nI 272 * nI j)) + nI w = _
  rw [pk_mul, nI_add, nI_add]
theorem e3475 (k x : Nat) : (3475 * nI k) + nI x = nI (3475 * k + x) := by
  show (nI 3475 * nI k) + nI x = _
  rw [pk_mul, nI_add]
theorem e29 (c s : Nat) : nI c * 29 + nI s = nI (29 * c + s) := by
  show (nI c * nI 29) + nI s = _
  rw [pk_mul, nI_add, Nat.mul_comm]
theorem eadd (k x : Nat) (v : Int32) (hv : v = nI k) : v + nI x = nI (k + x) := by rw [hv, nI_add]
theorem ix_nI {n : Nat} (h : n < 2 ^ 31) : ix (nI n) = n := nI_clamp h
theorem vin {n N : Nat} (h : n < N) (hN : N < 2 ^ 31) : vp_in (nI n) N := vp_in_nI h hN
/-- a number between 0 and N (N small) is nI of one below -/
theorem i_of {x : Int32} {N : Nat} (hN : N < 2 ^ 31) (h0 : ¬ x < 0) (h1 : ¬ nI N ≤ x) : ∃ n, n < N ∧ x = nI n := by
  rcases pk_ix x hN with h | h | h
  · exact absurd h h0
  · exact absurd h h1
  · exact h
/-! a place of a row is changed -/
def up (σ : Nat → Nat → Int32) (f i : Nat) (v : Int32) : Nat → Nat → Int32 := fun g j => if g = f ∧ j = i then v else σ g j
theorem up_s (σ : Nat → Nat → Int32) (f i : Nat) (v : Int32) : up σ f i v f i = v := if_pos ⟨rfl, rfl⟩
theorem up_f {σ : Nat → Nat → Int32} {f i : Nat} {v : Int32} {g j : Nat} (h : g ≠ f) : up σ f i v g j = σ g j := if_neg fun q => h q.1
theorem up_i {σ : Nat → Nat → Int32} {f i : Nat} {v : Int32} {g j : Nat} (h : j ≠ i) : up σ f i v g j = σ g j := if_neg fun q => h q.2
theorem up_e {σ : Nat → Nat → Int32} {f i : Nat} {v : Int32} {g j : Nat} : up σ f i v g j = if g = f ∧ j = i then v else σ g j := rfl
/-! sums -/
def sm (n : Nat) (f : Nat → Int32) : Int32 := match n with
  | 0 => 0
  | n + 1 => sm n f + f n
theorem sm0 (f : Nat → Int32) : sm 0 f = 0 := rfl
theorem smS (n : Nat) (f : Nat → Int32) : sm (n + 1) f = sm n f + f n := rfl
theorem sm_congr {n : Nat} {f g : Nat → Int32} (h : ∀ i, i < n → f i = g i) : sm n f = sm n g := by
  induction n with
  | zero => rfl
  | succ n ih => rw [smS, smS, ih (fun i hi => h i (by omega)), h n (by omega)]
theorem sm_zero {n : Nat} {f : Nat → Int32} (h : ∀ i, i < n → f i = 0) : sm n f = 0 := by
  induction n with
  | zero => rfl
  | succ n ih => rw [smS, ih (fun i hi => h i (by omega)), h n (by omega)]; rfl
theorem i_add_comm (a b : Int32) : a + b = b + a := Int32.add_comm a b
theorem sm_add (n : Nat) (f g : Nat → Int32) : sm n (fun i => f i + g i) = sm n f + sm n g := by
  induction n with
  | zero => rfl
  | succ n ih => rw [smS, smS, smS, ih]; ac_rfl
theorem sm_mul (n : Nat) (f : Nat → Int32) (c : Int32) : sm n (fun i => f i * c) = sm n f * c := by
  induction n with
  | zero => rw [sm0, sm0, Int32.zero_mul]
  | succ n ih => rw [smS, smS, ih, Int32.add_mul]
theorem sm_swap (n m : Nat) (f : Nat → Nat → Int32) : sm n (fun i => sm m (f i)) = sm m (fun j => sm n (fun i => f i j)) := by
  induction n with
  | zero => rw [sm0]; exact (sm_zero fun _ _ => rfl).symm
  | succ n ih => rw [smS, ih, ← sm_add]; rfl
/-- zeros behind don't count -/
theorem sm_ext {n m : Nat} {f : Nat → Int32} (h : n ≤ m) (hz : ∀ i, n ≤ i → i < m → f i = 0) : sm m f = sm n f := by
  induction m with
  | zero => rw [show n = 0 by omega]
  | succ m ih =>
    by_cases e : n = m + 1
    · rw [e]
    · rw [smS, ih (by omega) (fun i h1 h2 => hz i h1 (by omega)), hz m (by omega) (by omega), Int32.add_zero]
theorem sm_one {n k : Nat} {f : Nat → Int32} (hk : k < n) (hz : ∀ i, i < n → i ≠ k → f i = 0) : sm n f = f k := by
  induction n with
  | zero => omega
  | succ n ih =>
    by_cases e : k = n
    · subst e
      rw [smS, sm_zero (fun i hi => hz i (by omega) (by omega)), Int32.zero_add]
    · rw [smS, ih (by omega) (fun i h1 h2 => hz i (by omega) h2), hz n (by omega) (Ne.symm e), Int32.add_zero]
/-- widths -/
def wd (s : Nat) : Int32 := if s < 26 then 2 + nI (s % 5) else if s = 26 then 4 else if s = 27 then 2 else 1
/-! the reference's heap: its object m, its rows by field -/
def arf (f : Nat) : Bool := f == 0 || f == 1 || f == 3 || f == 6 || f == 8 || f == 12 || f == 13 || f == 14 || f == 15 || f == 17 || f == 18 || f == 19 || f == 20 || f == 21
def lenf (f : Nat) : Nat := match f with
  | 0 => 3475
  | 1 => 17375
  | 3 => 3475
  | 6 => 60
  | 8 => 60
  | 12 => 31
  | 13 => 31
  | 17 => 29
  | 18 => 29
  | _ => 32
/-- a kind of the reference's -/
def mk (k : Nat) : Prop := k = 8 ∨ 60 ≤ k
/-- only the reference's cells have changed, and no reference -/
def MF (h0 h : Hp) : Prop := (∀ c, hK h c = hK h0 c) ∧ (∀ c, hL h c = hL h0 c) ∧ (∀ c i, hR h c i = hR h0 c i) ∧ ∀ c, ¬ mk (hK h0 c) → ∀ i, hI h c i = hI h0 c i
/-- the reference's object m holds σ; since h0 only its own cells have changed -/
def MB (h0 : Hp) (m : Nat) (σ : Nat → Nat → Int32) (h : Hp) : Prop :=
  hK h0 m = 8 ∧ (∀ f, arf f = true → hK h0 (hR h0 m f) = 60 + f ∧ hL h0 (hR h0 m f) = lenf f) ∧ (∀ f, arf f = true → ∀ i, hI h (hR h0 m f) i = σ f i) ∧ (∀ f, arf f = false → hI h m f = σ f 0) ∧ MF h0 h
section MBs
variable {h0 h : Hp} {m : Nat} {σ : Nat → Nat → Int32}
theorem MB.k (x : MB h0 m σ h) : hK h m = 8 := (x.2.2.2.2.1 m).trans x.1
theorem MB.r (x : MB h0 m σ h) (c f : Nat) : hR h c f = hR h0 c f := x.2.2.2.2.2.2.1 c f
theorem MB.ka (x : MB h0 m σ h) (f : Nat) (hf : arf f = true) : hK h (hR h0 m f) = 60 + f := (x.2.2.2.2.1 _).trans (x.2.1 f hf).1
theorem MB.la (x : MB h0 m σ h) (f : Nat) (hf : arf f = true) : hL h (hR h0 m f) = lenf f := (x.2.2.2.2.2.1 _).trans (x.2.1 f hf).2
theorem MB.ra (x : MB h0 m σ h) (f : Nat) (hf : arf f = true) (i : Nat) : hI h (hR h0 m f) i = σ f i := x.2.2.1 f hf i
theorem MB.rs (x : MB h0 m σ h) (f : Nat) (hf : arf f = false) : hI h m f = σ f 0 := x.2.2.2.1 f hf
theorem MB.pa (x : MB h0 m σ h) (f : Nat) (hf : arf f = true) {i : Nat} {v : Int32} {h1 : Hp} (e : h1 = sI h (hR h0 m f) i v) : MB h0 m (up σ f i v) h1 := by
  subst e
  refine ⟨x.1, x.2.1, fun g hg j => ?_, fun g hg => ?_, fun c => x.2.2.2.2.1 c, fun c => x.2.2.2.2.2.1 c, fun c i => x.2.2.2.2.2.2.1 c i, fun c hc j => ?_⟩
  · rw [hI_sI, x.2.2.1 g hg]
    by_cases e : g = f
    · subst e; simp only [up, true_and]
    · have : ¬ hR h0 m g = hR h0 m f := fun q => e (by have a := (x.2.1 g hg).1; have b := (x.2.1 f hf).1; rw [q] at a; omega)
      rw [if_neg (fun q => this q.1), up_f e]
  · have : ¬ m = hR h0 m f := fun q => by have a := x.1; have b := (x.2.1 f hf).1; rw [← q] at b; omega
    rw [hI_sI, if_neg (fun q => this q.1), x.2.2.2.1 g hg, up_f (fun q => by rw [q, hf] at hg; cases hg)]
  · rw [hI_sI, if_neg, x.2.2.2.2.2.2.2 c hc]
    rintro ⟨rfl, -⟩
    exact hc (by rw [(x.2.1 f hf).1]; exact Or.inr (by omega))
theorem MB.ps (x : MB h0 m σ h) (f : Nat) (hf : arf f = false) {v : Int32} {h1 : Hp} (e : h1 = sI h m f v) : MB h0 m (up σ f 0 v) h1 := by
  subst e
  refine ⟨x.1, x.2.1, fun g hg j => ?_, fun g hg => ?_, fun c => x.2.2.2.2.1 c, fun c => x.2.2.2.2.2.1 c, fun c i => x.2.2.2.2.2.2.1 c i, fun c hc j => ?_⟩
  · have : ¬ hR h0 m g = m := fun q => by have a := x.1; have b := (x.2.1 g hg).1; rw [q] at b; omega
    rw [hI_sI, if_neg (fun q => this q.1), x.2.2.1 g hg, up_f (fun q => by rw [q, hf] at hg; cases hg)]
  · rw [hI_sI, x.2.2.2.1 g hg]
    simp only [up, true_and, and_true]
  · rw [hI_sI, if_neg, x.2.2.2.2.2.2.2 c hc]
    rintro ⟨rfl, -⟩
    exact hc (by rw [x.1]; exact Or.inl rfl)
/-- all at once, for simp -/
theorem MB.s (x : MB h0 m σ h) : hK h m = 8 ∧ (∀ f, hR h m f = hR h0 m f) ∧
    (hK h (hR h0 m 0) = 60 ∧ hK h (hR h0 m 1) = 61 ∧ hK h (hR h0 m 3) = 63 ∧ hK h (hR h0 m 6) = 66 ∧ hK h (hR h0 m 8) = 68 ∧ hK h (hR h0 m 12) = 72 ∧ hK h (hR h0 m 13) = 73 ∧ hK h (hR h0 m 14) = 74 ∧ hK h (hR h0 m 15) = 75 ∧ hK h (hR h0 m 17) = 77 ∧ hK h (hR h0 m 18) = 78 ∧ hK h (hR h0 m 19) = 79 ∧ hK h (hR h0 m 20) = 80 ∧ hK h (hR h0 m 21) = 81) ∧
    (hL h (hR h0 m 0) = 3475 ∧ hL h (hR h0 m 1) = 17375 ∧ hL h (hR h0 m 3) = 3475 ∧ hL h (hR h0 m 6) = 60 ∧ hL h (hR h0 m 8) = 60 ∧ hL h (hR h0 m 12) = 31 ∧ hL h (hR h0 m 13) = 31 ∧ hL h (hR h0 m 14) = 32 ∧ hL h (hR h0 m 15) = 32 ∧ hL h (hR h0 m 17) = 29 ∧ hL h (hR h0 m 18) = 29 ∧ hL h (hR h0 m 19) = 32 ∧ hL h (hR h0 m 20) = 32 ∧ hL h (hR h0 m 21) = 32) ∧
    ((∀ i, hI h (hR h0 m 0) i = σ 0 i) ∧ (∀ i, hI h (hR h0 m 1) i = σ 1 i) ∧ (∀ i, hI h (hR h0 m 3) i = σ 3 i) ∧ (∀ i, hI h (hR h0 m 6) i = σ 6 i) ∧ (∀ i, hI h (hR h0 m 8) i = σ 8 i) ∧ (∀ i, hI h (hR h0 m 12) i = σ 12 i) ∧ (∀ i, hI h (hR h0 m 13) i = σ 13 i) ∧ (∀ i, hI h (hR h0 m 14) i = σ 14 i) ∧ (∀ i, hI h (hR h0 m 15) i = σ 15 i) ∧ (∀ i, hI h (hR h0 m 17) i = σ 17 i) ∧ (∀ i, hI h (hR h0 m 18) i = σ 18 i) ∧ (∀ i, hI h (hR h0 m 19) i = σ 19 i) ∧ (∀ i, hI h (hR h0 m 20) i = σ 20 i) ∧ (∀ i, hI h (hR h0 m 21) i = σ 21 i)) ∧
    (hI h m 2 = σ 2 0 ∧ hI h m 4 = σ 4 0 ∧ hI h m 5 = σ 5 0 ∧ hI h m 7 = σ 7 0 ∧ hI h m 9 = σ 9 0 ∧ hI h m 10 = σ 10 0 ∧ hI h m 11 = σ 11 0 ∧ hI h m 16 = σ 16 0) :=
  ⟨x.k, fun f => x.r m f, ⟨x.ka 0 rfl, x.ka 1 rfl, x.ka 3 rfl, x.ka 6 rfl, x.ka 8 rfl, x.ka 12 rfl, x.ka 13 rfl, x.ka 14 rfl, x.ka 15 rfl, x.ka 17 rfl, x.ka 18 rfl, x.ka 19 rfl, x.ka 20 rfl, x.ka 21 rfl⟩,
    ⟨x.la 0 rfl, x.la 1 rfl, x.la 3 rfl, x.la 6 rfl, x.la 8 rfl, x.la 12 rfl, x.la 13 rfl, x.la 14 rfl, x.la 15 rfl, x.la 17 rfl, x.la 18 rfl, x.la 19 rfl, x.la 20 rfl, x.la 21 rfl⟩,
    ⟨x.ra 0 rfl, x.ra 1 rfl, x.ra 3 rfl, x.ra 6 rfl, x.ra 8 rfl, x.ra 12 rfl, x.ra 13 rfl, x.ra 14 rfl, x.ra 15 rfl, x.ra 17 rfl, x.ra 18 rfl, x.ra 19 rfl, x.ra 20 rfl, x.ra 21 rfl⟩,
    ⟨x.rs 2 rfl, x.rs 4 rfl, x.rs 5 rfl, x.rs 7 rfl, x.rs 9 rfl, x.rs 10 rfl, x.rs 11 rfl, x.rs 16 rfl⟩⟩
end MBs
/-! comparisons with literals -/
theorem c1 {i : Nat} (hi : i < 2 ^ 31) : (1 : Int32) ≤ nI i ↔ 1 ≤ i := nI_leI (a := 1) (by decide) hi
theorem q1 {i : Nat} (hi : i < 2 ^ 31) : nI i = (1 : Int32) ↔ i = 1 := nI_eq (b := 1) hi (by decide)
theorem c3 {i : Nat} (hi : i < 2 ^ 31) : (3 : Int32) ≤ nI i ↔ 3 ≤ i := nI_leI (a := 3) (by decide) hi
theorem q3 {i : Nat} (hi : i < 2 ^ 31) : nI i = (3 : Int32) ↔ i = 3 := nI_eq (b := 3) hi (by decide)
theorem c5 {i : Nat} (hi : i < 2 ^ 31) : (5 : Int32) ≤ nI i ↔ 5 ≤ i := nI_leI (a := 5) (by decide) hi
theorem q5 {i : Nat} (hi : i < 2 ^ 31) : nI i = (5 : Int32) ↔ i = 5 := nI_eq (b := 5) hi (by decide)
theorem c6 {i : Nat} (hi : i < 2 ^ 31) : (6 : Int32) ≤ nI i ↔ 6 ≤ i := nI_leI (a := 6) (by decide) hi
theorem q6 {i : Nat} (hi : i < 2 ^ 31) : nI i = (6 : Int32) ↔ i = 6 := nI_eq (b := 6) hi (by decide)
theorem c12 {i : Nat} (hi : i < 2 ^ 31) : (12 : Int32) ≤ nI i ↔ 12 ≤ i := nI_leI (a := 12) (by decide) hi
theorem q12 {i : Nat} (hi : i < 2 ^ 31) : nI i = (12 : Int32) ↔ i = 12 := nI_eq (b := 12) hi (by decide)
theorem c26 {i : Nat} (hi : i < 2 ^ 31) : (26 : Int32) ≤ nI i ↔ 26 ≤ i := nI_leI (a := 26) (by decide) hi
theorem q26 {i : Nat} (hi : i < 2 ^ 31) : nI i = (26 : Int32) ↔ i = 26 := nI_eq (b := 26) hi (by decide)
theorem c29 {i : Nat} (hi : i < 2 ^ 31) : (29 : Int32) ≤ nI i ↔ 29 ≤ i := nI_leI (a := 29) (by decide) hi
theorem q29 {i : Nat} (hi : i < 2 ^ 31) : nI i = (29 : Int32) ↔ i = 29 := nI_eq (b := 29) hi (by decide)
theorem c30 {i : Nat} (hi : i < 2 ^ 31) : (30 : Int32) ≤ nI i ↔ 30 ≤ i := nI_leI (a := 30) (by decide) hi
theorem q30 {i : Nat} (hi : i < 2 ^ 31) : nI i = (30 : Int32) ↔ i = 30 := nI_eq (b := 30) hi (by decide)
theorem c60 {i : Nat} (hi : i < 2 ^ 31) : (60 : Int32) ≤ nI i ↔ 60 ≤ i := nI_leI (a := 60) (by decide) hi
theorem q60 {i : Nat} (hi : i < 2 ^ 31) : nI i = (60 : Int32) ↔ i = 60 := nI_eq (b := 60) hi (by decide)
theorem c99 {i : Nat} (hi : i < 2 ^ 31) : (99 : Int32) ≤ nI i ↔ 99 ≤ i := nI_leI (a := 99) (by decide) hi
theorem q99 {i : Nat} (hi : i < 2 ^ 31) : nI i = (99 : Int32) ↔ i = 99 := nI_eq (b := 99) hi (by decide)
theorem c3475 {i : Nat} (hi : i < 2 ^ 31) : (3475 : Int32) ≤ nI i ↔ 3475 ≤ i := nI_leI (a := 3475) (by decide) hi
theorem q3475 {i : Nat} (hi : i < 2 ^ 31) : nI i = (3475 : Int32) ↔ i = 3475 := nI_eq (b := 3475) hi (by decide)
theorem c13900 {i : Nat} (hi : i < 2 ^ 31) : (13900 : Int32) ≤ nI i ↔ 13900 ≤ i := nI_leI (a := 13900) (by decide) hi
theorem q13900 {i : Nat} (hi : i < 2 ^ 31) : nI i = (13900 : Int32) ↔ i = 13900 := nI_eq (b := 13900) hi (by decide)
theorem q0 {i : Nat} (hi : i < 2 ^ 31) : nI i = (0 : Int32) ↔ i = 0 := nI_eq (b := 0) hi (by decide)
theorem c1v {i : Nat} (hi : i < 2 ^ 31) : nI i ≤ (1 : Int32) ↔ i ≤ 1 := nI_leI (b := 1) hi (by decide)
theorem c0 {i : Nat} (hi : i < 2 ^ 31) : (0 : Int32) ≤ nI i := nI_pos' hi
theorem cn0 {i : Nat} (hi : i < 2 ^ 31) : ¬ nI i < (0 : Int32) := nI_pos hi
theorem e182 (s : Nat) : 182 + nI s = nI (182 + s) := nI_add 182 s
theorem e7 (s : Nat) : 7 + nI s = nI (7 + s) := nI_add 7 s
theorem e241 (s : Nat) : 241 + nI s = nI (241 + s) := nI_add 241 s
