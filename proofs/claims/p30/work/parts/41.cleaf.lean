/-! the class's small calls on its present state -/
theorem lt28 (a : Int32) : 29 ≤ a ↔ 28 < a := by
  rw [Int32.le_iff_toInt_le, Int32.lt_iff_toInt_lt]
  have e1 : (29 : Int32).toInt = 29 := by decide
  have e2 : (28 : Int32).toInt = 28 := by decide
  omega
theorem ltN (a : Int32) {n : Nat} (hn : n < 2 ^ 30) : nI n - 1 < a ↔ nI n ≤ a := by
  rw [Int32.le_iff_toInt_le, Int32.lt_iff_toInt_lt, show (1 : Int32) = nI 1 from rfl, pk_sub_toInt (by omega) (by decide), nI_toInt (by omega)]
  omega
section CLEAF
variable {h0 h : Hp} {x q : Nat} {φ : Nat → Nat → Int32} {K : Int32 → Hp → Prop}
theorem k_isSort (a : Int32) : V_X6_isSort a h K ↔ K (if a < 0 ∨ 28 < a then 0 else 1) h := by
  unfold V_X6_isSort V_X6_isSort_14 V_X6_isSort_15
  rw [lt28]
  by_cases h1 : a < 0
  · simp [h1]
  · by_cases h2 : 28 < a <;> simp [h1, h2]
theorem k_isLetter (a : Int32) : V_X6_isLetter a h K ↔ K (if a < 97 ∨ 122 < a then 0 else 1) h := by
  unfold V_X6_isLetter V_X6_isLetter_16 V_X6_isLetter_17
  by_cases h1 : a < 97
  · simp [h1]
  · by_cases h2 : 122 < a <;> simp [h1, h2]
theorem k_isCase (y : XB h0 x q φ h) {nc : Nat} (hn : φ 6 3 = nI nc) (h6 : nc ≤ 6) (a : Int32) : V_X6_isCase x a h K ↔ K (if a < 0 ∨ φ 6 3 - 1 < a then 0 else 1) h := by
  unfold V_X6_isCase V_X6_isCase_25 V_X6_isCase_26
  simp only [y.s, hn, ltN a (show nc < 2 ^ 30 by omega), true_and]
  by_cases h1 : a < 0
  · simp [h1]
  · by_cases h2 : nI nc ≤ a
    · simp [h1, h2]
    · have h3 : ¬ (6 : Int32) ≤ a := fun z => h2 (Int32.le_trans ((nI_leI (b := 6) (show nc < 2 ^ 31 by omega) (by decide)).mpr h6) z)
      simp [h1, h2, h3]
theorem k_width {s : Nat} (hs : s < 29) : V_X6_widthOf (nI s) h K ↔ K (wd s) h := by
  unfold V_X6_widthOf wd
  rw [nI_toInt (by omega), show nI s - nI s / 5 * 5 = nI (s % 5) from pk_rem (d := 5) (by omega) (by decide) (by decide)]
  by_cases h1 : s < 26
  · rw [if_pos h1]
    exact ⟨fun z => z.2.2.2 (Or.inl (by omega)), fun z => ⟨fun e => absurd e (by omega), fun e => absurd e (by omega), fun e => absurd e (by omega), fun _ => z⟩⟩
  · rw [if_neg h1]
    by_cases h2 : s = 26
    · rw [if_pos h2]
      exact ⟨fun z => z.1 (by omega), fun z => ⟨fun _ => z, fun e => absurd e (by omega), fun e => absurd e (by omega), fun e => absurd e (by omega)⟩⟩
    · rw [if_neg h2]
      by_cases h3 : s = 27
      · rw [if_pos h3]
        exact ⟨fun z => z.2.1 (by omega), fun z => ⟨fun e => absurd e (by omega), fun _ => z, fun e => absurd e (by omega), fun e => absurd e (by omega)⟩⟩
      · rw [if_neg h3]
        exact ⟨fun z => z.2.2.1 (by omega), fun z => ⟨fun e => absurd e (by omega), fun e => absurd e (by omega), fun _ => z, fun e => absurd e (by omega)⟩⟩
theorem k_held (y : XB h0 x q φ h) {c s : Nat} (hc : c < 6) (hs : s < 29) : V_X5_held (hR h0 x 1) (nI c) (nI s) h K ↔ K (φ 35 (29 * c + s)) h := by
  unfold V_X5_held V_X5_held_28 V_X5_held_29 V_X6_slotOf
  simp only [y.s, e29, ix_nI (show 29 * c + s < 2 ^ 31 by omega), show vp_in (nI (29 * c + s)) 174 from vin (by omega) (by omega), true_and]
  rw [nle (nc := 174) (by omega) (by omega)]
  exact ⟨fun z => (z.2 (cn0 (by omega))).2 (by omega), fun z => ⟨fun e => absurd e (cn0 (by omega)), fun _ => ⟨fun e => absurd e (by omega), fun _ => z⟩⟩⟩
theorem k_put (y : XB h0 x q φ h) {c s : Nat} (hc : c < 6) (hs : s < 29) (v : Int32) {K : Hp → Prop} (hK : ∀ h1, XB h0 x q (up φ 35 (29 * c + s) (φ 35 (29 * c + s) + v)) h1 → K h1) : V_X5_put (hR h0 x 1) (nI c) (nI s) v h K := by
  unfold V_X5_put V_X5_put_33 V_X6_slotOf
  simp only [y.s, e29, ix_nI (show 29 * c + s < 2 ^ 31 by omega), show vp_in (nI (29 * c + s)) 174 from vin (by omega) (by omega), true_and]
  rw [nle (nc := 174) (by omega) (by omega)]
  exact ⟨fun e => absurd e (cn0 (by omega)), fun _ => ⟨fun e => absurd e (by omega), fun _ h2 e2 => hK h2 (y.put 35 (Or.inl rfl) e2)⟩⟩
theorem k_heldInAll (y : XB h0 x q φ h) {s : Nat} (hs : s < 29) (hK : K (sm 6 (fun c => φ 35 (29 * c + s))) h) : V_X5_heldInAll (hR h0 x 1) (nI s) h K := by
  have key : ∀ (d c n : Nat), c + d = 6 → d < n → V_X5_heldInAll_4 K n (hR h0 x 1) (nI s) (sm c (fun c => φ 35 (29 * c + s))) (nI c) h := by
    intro d
    induction d with
    | zero =>
      intro c n h1 h2
      obtain ⟨n, rfl⟩ : ∃ k, n = k + 1 := ⟨n - 1, by omega⟩
      obtain rfl : c = 6 := by omega
      exact ⟨fun _ => hK, fun z => absurd (by decide) z⟩
    | succ d ih =>
      intro c n h1 h2
      obtain ⟨n, rfl⟩ : ∃ k, n = k + 1 := ⟨n - 1, by omega⟩
      unfold V_X5_heldInAll_4
      rw [c6 (by omega), nI_1, k_held y (show c < 6 by omega) hs]
      refine ⟨fun z => absurd z (by omega), fun _ => ⟨y.s.2.1.2.2.2.1, ?_⟩⟩
      exact ih (c + 1) n (by omega) (by omega)
  exact ⟨7, key 6 0 7 rfl (by decide)⟩
theorem k_wornPieces (y : XB h0 x q φ h) (hK : K (sm 29 (fun s => φ 36 s)) h) : V_X5_wornPieces (hR h0 x 1) h K := by
  have key : ∀ (d s n : Nat), s + d = 29 → d < n → V_X5_wornPieces_4 K n (hR h0 x 1) (sm s (fun s => φ 36 s)) (nI s) h := by
    intro d
    induction d with
    | zero =>
      intro c n h1 h2
      obtain ⟨n, rfl⟩ : ∃ k, n = k + 1 := ⟨n - 1, by omega⟩
      obtain rfl : c = 29 := by omega
      exact ⟨fun _ => hK, fun z => absurd (by decide) z⟩
    | succ d ih =>
      intro c n h1 h2
      obtain ⟨n, rfl⟩ : ∃ k, n = k + 1 := ⟨n - 1, by omega⟩
      unfold V_X5_wornPieces_4
      simp only [y.s, c29 (show c < 2 ^ 31 by omega), nI_1, ix_nI (show c < 2 ^ 31 by omega), show vp_in (nI c) 29 from vin (by omega) (by omega), true_and]
      exact ⟨fun z => absurd z (by omega), fun _ => ih (c + 1) n (by omega) (by omega)⟩
  exact ⟨30, key 29 0 30 rfl (by decide)⟩
theorem k_wornMetal (y : XB h0 x q φ h) (hK : K (sm 29 (fun s => φ 36 s * wd s)) h) : V_X5_wornMetal (hR h0 x 1) h K := by
  have key : ∀ (d s n : Nat), s + d = 29 → d < n → V_X5_wornMetal_4 K n (hR h0 x 1) (sm s (fun s => φ 36 s * wd s)) (nI s) h := by
    intro d
    induction d with
    | zero =>
      intro c n h1 h2
      obtain ⟨n, rfl⟩ : ∃ k, n = k + 1 := ⟨n - 1, by omega⟩
      obtain rfl : c = 29 := by omega
      exact ⟨fun _ => hK, fun z => absurd (by decide) z⟩
    | succ d ih =>
      intro c n h1 h2
      obtain ⟨n, rfl⟩ : ∃ k, n = k + 1 := ⟨n - 1, by omega⟩
      unfold V_X5_wornMetal_4
      simp only [y.s, c29 (show c < 2 ^ 31 by omega), nI_1, ix_nI (show c < 2 ^ 31 by omega), show vp_in (nI c) 29 from vin (by omega) (by omega), k_width (show c < 29 by omega), true_and]
      exact ⟨fun z => absurd z (by omega), fun _ => ih (c + 1) n (by omega) (by omega)⟩
  exact ⟨30, key 29 0 30 rfl (by decide)⟩
theorem k_metalInCases (y : XB h0 x q φ h) (hK : K (sm 29 (fun s => sm 6 (fun c => φ 35 (29 * c + s)) * wd s)) h) : V_X5_metalInCases (hR h0 x 1) h K := by
  have key : ∀ (d s n : Nat), s + d = 29 → d < n → V_X5_metalInCases_4 K n (hR h0 x 1) (sm s (fun s => sm 6 (fun c => φ 35 (29 * c + s)) * wd s)) (nI s) h := by
    intro d
    induction d with
    | zero =>
      intro c n h1 h2
      obtain ⟨n, rfl⟩ : ∃ k, n = k + 1 := ⟨n - 1, by omega⟩
      obtain rfl : c = 29 := by omega
      exact ⟨fun _ => hK, fun z => absurd (by decide) z⟩
    | succ d ih =>
      intro c n h1 h2
      obtain ⟨n, rfl⟩ : ∃ k, n = k + 1 := ⟨n - 1, by omega⟩
      unfold V_X5_metalInCases_4
      rw [c29 (by omega), nI_1]
      refine ⟨fun z => absurd z (by omega), fun _ => ⟨y.s.2.1.2.2.2.1, k_heldInAll y (by omega) ?_⟩⟩
      rw [k_width (by omega)]
      exact ih (c + 1) n (by omega) (by omega)
  exact ⟨30, key 29 0 30 rfl (by decide)⟩
theorem k_empty {K : Hp → Prop} (hK : ∀ h1 φ1, XB h0 x q φ1 h1 → (∀ k, k ≠ 36 → φ1 k = φ k) → (∀ i, i < 29 → φ1 36 i = 0) → K h1) (y : XB h0 x q φ h) : V_X5_emptyWornBox (hR h0 x 1) h K := by
  have key : ∀ (d s n : Nat) (φ1 : Nat → Nat → Int32) (h1 : Hp), s + d = 29 → d < n → XB h0 x q φ1 h1 → (∀ k, k ≠ 36 → φ1 k = φ k) → (∀ i, i < s → φ1 36 i = 0) → V_X5_emptyWornBox_2 K n (hR h0 x 1) (nI s) h1 := by
    intro d
    induction d with
    | zero =>
      intro c n φ1 hh h1 h2 y1 g1 g2
      obtain ⟨n, rfl⟩ : ∃ k, n = k + 1 := ⟨n - 1, by omega⟩
      obtain rfl : c = 29 := by omega
      exact ⟨fun _ => hK hh φ1 y1 g1 g2, fun z => absurd (by decide) z⟩
    | succ d ih =>
      intro c n φ1 hh h1 h2 y1 g1 g2
      obtain ⟨n, rfl⟩ : ∃ k, n = k + 1 := ⟨n - 1, by omega⟩
      unfold V_X5_emptyWornBox_2
      simp only [y1.s, c29 (show c < 2 ^ 31 by omega), nI_1, ix_nI (show c < 2 ^ 31 by omega), show vp_in (nI c) 29 from vin (by omega) (by omega), true_and]
      refine ⟨fun z => absurd z (by omega), fun _ h3 e3 => ih (c + 1) n _ h3 (by omega) (by omega) (y1.put 36 (Or.inl rfl) e3) (fun k hk => ?_) (fun i hi => ?_)⟩
      · rw [← g1 k hk]; funext j; exact up_f hk
      · by_cases e : i = c
        · rw [e, up_s]
        · rw [up_i e]; exact g2 i (by omega)
  exact ⟨30, key 29 0 30 φ h rfl (by decide) y (fun _ _ => rfl) (fun i hi => absurd hi (Nat.not_lt_zero _))⟩
end CLEAF
