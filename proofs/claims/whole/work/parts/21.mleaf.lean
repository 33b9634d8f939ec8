/-! the reference's small methods -/
theorem clit {v : Int32} (N : Nat) (hv : v = nI N) {i : Nat} (hN : N < 2 ^ 31) (hi : i < 2 ^ 31) : v ≤ nI i ↔ N ≤ i := by rw [hv]; exact nI_leI hN hi
theorem rng (a : Int32) {n : Nat} (hn : n < 2 ^ 30) : (a < 0 ∨ nI n - 1 < a) ∨ ∃ c, c < n ∧ a = nI c ∧ ¬ (a < 0 ∨ nI n - 1 < a) := by
  by_cases h : a < 0 ∨ nI n - 1 < a
  · exact Or.inl h
  · right
    have h1 : ¬ a < 0 := fun q => h (Or.inl q)
    have h2 : ¬ nI n - 1 < a := fun q => h (Or.inr q)
    obtain ⟨j, hj, rfl⟩ := nI_of h1
    refine ⟨j, ?_, rfl, h⟩
    have h3 : (nI n - nI 1).toInt = (n : Int) - (1 : Nat) := pk_sub_toInt hn (by omega)
    have h4 : ¬ (nI n - nI 1) < nI j := h2
    rw [Int32.lt_iff_toInt_lt, h3, nI_toInt hj] at h4
    omega
/-- a range with a literal end -/
theorem rngL (a : Int32) {n : Nat} {v : Int32} (hv : v = nI n) (hn : n < 2 ^ 30) : (a < 0 ∨ v < a) ∨ ∃ c, c ≤ n ∧ a = nI c ∧ ¬ (a < 0 ∨ v < a) := by
  by_cases h : a < 0 ∨ v < a
  · exact Or.inl h
  · right
    have h1 : ¬ a < 0 := fun q => h (Or.inl q)
    have h2 : ¬ v < a := fun q => h (Or.inr q)
    obtain ⟨j, hj, rfl⟩ := nI_of h1
    refine ⟨j, ?_, rfl, h⟩
    rw [hv, nI_ltI (by omega) hj] at h2
    omega
section MLEAF
variable {h0 h : Hp} {m : Nat} {σ : Nat → Nat → Int32} {K : Int32 → Hp → Prop}
theorem s_in (a b c : Int32) : V_X7_in a b c h K ↔ K (if a < b ∨ c < a then 0 else 1) h := by
  unfold V_X7_in V_X7_in_14 V_X7_in_15
  by_cases h1 : a < b
  · simp [h1]
  · by_cases h2 : c < a <;> simp [h1, h2]
theorem s_noCase (x : MB h0 m σ h) (a : Int32) : V_X7_noCase m a h K ↔ K (if a < 0 ∨ σ 0 0 - 1 < a then 1 else 0) h := by
  unfold V_X7_noCase V_X7_noCase_21
  simp only [x.s, s_in, show ix 0 = 0 from rfl, show vp_in 0 3475 from vin (n := 0) (by decide) (by decide), true_and]
  by_cases h1 : a < 0 ∨ σ 0 0 - 1 < a <;> simp [h1]
theorem s_noJob (x : MB h0 m σ h) (a : Int32) : V_X7_noJob m a h K ↔ K (if a < 0 ∨ σ 0 1 - 1 < a then 1 else 0) h := by
  unfold V_X7_noJob V_X7_noJob_21
  simp only [x.s, s_in, show ix 1 = 1 from rfl, show vp_in 1 3475 from vin (n := 1) (by decide) (by decide), true_and]
  by_cases h1 : a < 0 ∨ σ 0 1 - 1 < a <;> simp [h1]
theorem s_noSort (a : Int32) : V_X7_noSort a h K ↔ K (if a < 0 ∨ 28 < a then 1 else 0) h := by
  unfold V_X7_noSort V_X7_noSort_15
  simp only [s_in]
  by_cases h1 : a < 0 ∨ 28 < a <;> simp [h1]
theorem s_has (x : MB h0 m σ h) {c s : Nat} (hc : c < 6) (hs : s < 29) : V_X7_has m (nI c) (nI s) h K ↔ K (σ 0 (8 + 29 * c + s)) h := by
  unfold V_X7_has
  simp only [x.s, e8, ix_nI (show 8 + 29 * c + s < 2 ^ 31 by omega), show vp_in (nI (8 + 29 * c + s)) 3475 from vin (by omega) (by omega), true_and]
theorem s_ofJob (x : MB h0 m σ h) {j w : Nat} (hj : j < 12) (hw : w < 272) : V_X7_ofJob m (nI j) (nI w) h K ↔ K (σ 0 (211 + 272 * j + w)) h := by
  unfold V_X7_ofJob
  simp only [x.s, e211, ix_nI (show 211 + 272 * j + w < 2 ^ 31 by omega), show vp_in (nI (211 + 272 * j + w)) 3475 from vin (by omega) (by omega), true_and]
theorem s_inForme (x : MB h0 m σ h) {j c s : Nat} (hj : j < 12) (hc : c < 6) (hs : s < 29) : V_X7_inForme m (nI j) (nI c) (nI s) h K ↔ K (σ 0 (211 + 272 * j + (67 + 29 * c + s))) h := by
  unfold V_X7_inForme
  simp only [x.s, e67, s_ofJob x hj (show 67 + 29 * c + s < 272 by omega), true_and]
theorem s_put (x : MB h0 m σ h) {j w : Nat} (hj : j < 12) (hw : w < 272) (v : Int32) {K : Hp → Prop} (hK : ∀ h1, MB h0 m (up σ 0 (211 + 272 * j + w) v) h1 → K h1) : V_X7_put m (nI j) (nI w) v h K := by
  unfold V_X7_put
  simp only [x.s, e211, ix_nI (show 211 + 272 * j + w < 2 ^ 31 by omega), show vp_in (nI (211 + 272 * j + w)) 3475 from vin (by omega) (by omega), true_and]
  exact fun h1 e => hK h1 (x.pa 0 rfl e)
theorem s_width {s : Nat} (hs : s < 29) : V_X7_width (nI s) h K ↔ K (wd s) h := by
  unfold V_X7_width V_X7_width_35 wd
  rw [c26 (by omega), q26 (by omega), show (nI s = (27 : Int32)) = (s = 27) from propext (nI_eq (b := 27) (by omega) (by decide)), show nI s - nI s / 5 * 5 = nI (s % 5) from pk_rem (d := 5) (by omega) (by decide) (by decide)]
  by_cases h1 : s < 26
  · simp [h1, Nat.not_le.mpr h1]
  · by_cases h2 : s = 26
    · simp [h2]
    · by_cases h3 : s = 27
      · simp [h3]
      · simp [h1, h2, h3, Nat.le_of_not_lt h1]
theorem s_isLetter (a : Int32) : V_X7_isLetter a h K ↔ K (if a < 97 ∨ 122 < a then 0 else 1) h := by
  unfold V_X7_isLetter
  simp only [s_in]
  by_cases h1 : a < 97 ∨ 122 < a <;> simp [h1]
theorem s_least (a b : Int32) : V_X7_least a b h K ↔ K (if b ≤ a then b else a) h := by
  unfold V_X7_least V_X7_least_10
  by_cases h1 : b ≤ a <;> simp [h1]
def lk (σ : Nat → Nat → Int32) (s : Nat) : Int32 := if σ 17 s ≤ σ 18 s then 0 else σ 17 s - σ 18 s
theorem s_lacks (x : MB h0 m σ h) {s : Nat} (hs : s < 29) : V_X7_lacks m (nI s) h K ↔ K (lk σ s) h := by
  unfold V_X7_lacks V_X7_lacks_32 lk
  simp only [x.s, ix_nI (show s < 2 ^ 31 by omega), show vp_in (nI s) 29 from vin (by omega) (by omega), true_and]
  by_cases h1 : σ 17 s ≤ σ 18 s <;> simp [h1]
theorem s_hasForme (x : MB h0 m σ h) {j : Nat} (hj : j < 12) : V_X7_hasForme m (nI j) h K ↔ K (if σ 0 (211 + 272 * j + 3) = 1 ∨ σ 0 (211 + 272 * j + 3) = 2 then 1 else 0) h := by
  unfold V_X7_hasForme V_X7_hasForme_20 V_X7_hasForme_25
  rw [show (3 : Int32) = nI 3 from rfl]
  simp only [x.s, s_ofJob x hj (show 3 < 272 by omega), true_and]
  by_cases h1 : σ 0 (211 + 272 * j + 3) = 1
  · simp [h1]
  · by_cases h2 : σ 0 (211 + 272 * j + 3) = 2
    · simp [h2]
    · simp [h1, h2]
theorem s_isToDo (x : MB h0 m σ h) {j : Nat} (hj : j < 12) : V_X7_isToDo m (nI j) h K ↔ K (if σ 0 (211 + 272 * j + 3) < 0 ∨ 1 < σ 0 (211 + 272 * j + 3) then 0 else 1) h := by
  unfold V_X7_isToDo
  rw [show (3 : Int32) = nI 3 from rfl]
  simp only [x.s, s_ofJob x hj (show 3 < 272 by omega), s_in, true_and]
  by_cases h1 : σ 0 (211 + 272 * j + 3) < 0 ∨ 1 < σ 0 (211 + 272 * j + 3) <;> simp [h1]
/-! sums -/
theorem s_allLacks_l (x : MB h0 m σ h) (hK : K (sm 29 (lk σ)) h) : ∀ (d i n : Nat), i + d = 29 → d < n → V_X7_allLacks_4 K n m (sm i (lk σ)) (nI i) h := by
  intro d
  induction d with
  | zero =>
    intro i n h1 h2
    obtain ⟨n, rfl⟩ : ∃ k, n = k + 1 := ⟨n - 1, by omega⟩
    obtain rfl : i = 29 := by omega
    exact ⟨fun _ => hK, fun q => absurd (by decide) q⟩
  | succ d ih =>
    intro i n h1 h2
    obtain ⟨n, rfl⟩ : ∃ k, n = k + 1 := ⟨n - 1, by omega⟩
    unfold V_X7_allLacks_4
    rw [c29 (by omega)]
    refine ⟨fun q => absurd q (by omega), fun _ => ⟨x.k, (s_lacks x (by omega)).mpr ?_⟩⟩
    rw [nI_1]
    exact ih (i + 1) n (by omega) (by omega)
theorem s_allLacks (x : MB h0 m σ h) (hK : K (sm 29 (lk σ)) h) : V_X7_allLacks m h K := ⟨30, s_allLacks_l x hK 29 0 30 rfl (by decide)⟩
theorem s_inBox_l (x : MB h0 m σ h) (hK : K (sm 29 (fun s => σ 0 (182 + s))) h) : ∀ (d i n : Nat), i + d = 29 → d < n → V_X7_inBox_4 K n m (sm i (fun s => σ 0 (182 + s))) (nI i) h := by
  intro d
  induction d with
  | zero =>
    intro i n h1 h2
    obtain ⟨n, rfl⟩ : ∃ k, n = k + 1 := ⟨n - 1, by omega⟩
    obtain rfl : i = 29 := by omega
    exact ⟨fun _ => hK, fun q => absurd (by decide) q⟩
  | succ d ih =>
    intro i n h1 h2
    obtain ⟨n, rfl⟩ : ∃ k, n = k + 1 := ⟨n - 1, by omega⟩
    unfold V_X7_inBox_4
    rw [c29 (by omega), e182]
    refine ⟨fun q => absurd q (by omega), fun _ => ?_⟩
    simp only [x.s, ix_nI (show 182 + i < 2 ^ 31 by omega), show vp_in (nI (182 + i)) 3475 from vin (by omega) (by omega), true_and, nI_1]
    exact ih (i + 1) n (by omega) (by omega)
theorem s_inBox (x : MB h0 m σ h) (hK : K (sm 29 (fun s => σ 0 (182 + s))) h) : V_X7_inBox m h K := ⟨30, s_inBox_l x hK 29 0 30 rfl (by decide)⟩
theorem s_boxMetal_l (x : MB h0 m σ h) (hK : K (sm 29 (fun s => σ 0 (182 + s) * wd s)) h) : ∀ (d i n : Nat), i + d = 29 → d < n → V_X7_boxMetal_4 K n m (sm i (fun s => σ 0 (182 + s) * wd s)) (nI i) h := by
  intro d
  induction d with
  | zero =>
    intro i n h1 h2
    obtain ⟨n, rfl⟩ : ∃ k, n = k + 1 := ⟨n - 1, by omega⟩
    obtain rfl : i = 29 := by omega
    exact ⟨fun _ => hK, fun q => absurd (by decide) q⟩
  | succ d ih =>
    intro i n h1 h2
    obtain ⟨n, rfl⟩ : ∃ k, n = k + 1 := ⟨n - 1, by omega⟩
    unfold V_X7_boxMetal_4
    rw [c29 (by omega), e182]
    refine ⟨fun q => absurd q (by omega), fun _ => ?_⟩
    simp only [x.s, ix_nI (show 182 + i < 2 ^ 31 by omega), show vp_in (nI (182 + i)) 3475 from vin (by omega) (by omega), true_and, nI_1, s_width (show i < 29 by omega)]
    exact ih (i + 1) n (by omega) (by omega)
theorem s_boxMetal (x : MB h0 m σ h) (hK : K (sm 29 (fun s => σ 0 (182 + s) * wd s)) h) : V_X7_boxMetal m h K := ⟨30, s_boxMetal_l x hK 29 0 30 rfl (by decide)⟩
end MLEAF
