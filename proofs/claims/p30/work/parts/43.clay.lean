/-! the class's layouts: what they answer; its spaces -/
theorem cn_s : ∀ n : Fin 123, cn (nI n.val) = nI n.val := by decide
theorem cn_sm {n : Nat} (h : n < 123) : cn (nI n) = nI n := cn_s ⟨n, h⟩
theorem cn_L {v : Int32} (h : isL v) : cn v = v := by
  obtain ⟨s, hs, -, rfl⟩ := isL_of h
  exact cn_sm (by omega)
theorem FF.cn {tx : Nat → Int32} {len : Nat} (h : FF tx len) {i : Nat} (hi : i < len) : cn (tx i) = tx i := by
  rcases h.2.2.2 i hi with q | ⟨q | q, -⟩
  · exact cn_L q
  · rw [q]; exact cn_sm (n := 32) (by decide)
  · rw [q]; exact cn_sm (n := 47) (by decide)
theorem lay_ST0 {tx : Nat → Int32} {meas : Int32} {len : Nat} (h : 0 < (lay tx meas len).1.1) : (lay tx meas len).2.1 0 = 0 ∧ (lay tx meas len).2.2.2.1 0 = 0 :=
  ⟨((lay_ST (len + 1)).2.1 h).1, ((lay_ST (len + 1)).2.1 h).2.1⟩
theorem lay_STS {tx : Nat → Int32} {meas : Int32} {len l : Nat} (h : l + 1 < (lay tx meas len).1.1) : (lay tx meas len).2.1 (l + 1) = (lay tx meas len).2.2.1 l + 1 := (lay_ST (len + 1)).2.2 l h
section CLAY
variable {h : Hp} {y : Nat} {tx : Nat → Int32} {meas : Int32} {len : Nat} {K : Int32 → Hp → Prop}
theorem k_hasLine (L : LayR h y tx meas len) (hF : FF tx len) (l : Int32) : V_X2_hasLine y l h K ↔ K (if l < 0 ∨ nI (lay tx meas len).1.1 - 1 < l then 0 else 1) h := by
  have hb := (lay_bound (meas := meas) hF).1
  obtain ⟨l1, -, -, -, -, -, l5, -⟩ := L
  unfold V_X2_hasLine V_X2_hasLine_22 V_X2_hasLine_23
  simp only [l1, l5, ltN l (show (lay tx meas len).1.1 < 2 ^ 30 by omega), true_and]
  by_cases h1 : l < 0
  · simp [h1]
  · by_cases h2 : nI (lay tx meas len).1.1 ≤ l
    · simp [h1, h2]
    · have h3 : ¬ (30 : Int32) ≤ l := fun z => h2 (Int32.le_trans ((nI_leI (b := 30) (show (lay tx meas len).1.1 < 2 ^ 31 by omega) (by decide)).mpr hb) z)
      simp [h1, h2, h3]
theorem le0 {l : Nat} (h : l < 2 ^ 31) : nI l ≤ (0 : Int32) ↔ l ≤ 0 := nI_leI (b := 0) h (by decide)
theorem k_lineStart (L : LayR h y tx meas len) (hF : FF tx len) {l : Nat} (hl : l < (lay tx meas len).1.1) : V_X2_lineStart y (nI l) h K ↔ K (nI ((lay tx meas len).2.1 l)) h := by
  have hb := (lay_bound (meas := meas) hF).1
  obtain ⟨l1, -, -, ⟨c1, c2, c3⟩, -⟩ := L
  unfold V_X2_lineStart V_X2_lineStart_26 V_X2_lineStart_27
  simp only [l1, c1, c2, true_and]
  rw [le0 (by omega), nle (nc := 30) (by omega) (by omega)]
  cases l with
  | zero =>
    rw [(lay_ST0 hl).1]
    exact ⟨fun z => z.1 (Nat.le_refl _), fun z => ⟨fun _ => z, fun e => absurd (Nat.le_refl _) e⟩⟩
  | succ l =>
    rw [lay_STS hl, show nI (l + 1) - 1 = nI l from pk_sub (a := l + 1) (b := 1) (by omega), ix_nI (by omega), c3 l (by omega), nI_1]
    exact ⟨fun z => ((z.2 (by omega)).2 (by omega)).2, fun z => ⟨fun e => absurd e (by omega), fun _ => ⟨fun e => absurd e (by omega), fun _ => ⟨vin (by omega) (by omega), z⟩⟩⟩⟩
theorem k_firstGap (L : LayR h y tx meas len) (hF : FF tx len) {l : Nat} (hl : l < (lay tx meas len).1.1) : V_X2_firstGap y (nI l) h K ↔ K (nI ((lay tx meas len).2.2.2.1 l)) h := by
  have hb := (lay_bound (meas := meas) hF).1
  obtain ⟨l1, -, -, -, ⟨c1, c2, c3⟩, -⟩ := L
  unfold V_X2_firstGap V_X2_firstGap_24 V_X2_firstGap_25
  simp only [l1, c1, c2, true_and]
  rw [le0 (by omega), nle (nc := 30) (by omega) (by omega)]
  cases l with
  | zero =>
    rw [(lay_ST0 hl).2]
    exact ⟨fun z => z.1 (Nat.le_refl _), fun z => ⟨fun _ => z, fun e => absurd (Nat.le_refl _) e⟩⟩
  | succ l =>
    rw [show nI (l + 1) - 1 = nI l from pk_sub (a := l + 1) (b := 1) (by omega), ix_nI (by omega), c3 l (by omega)]
    exact ⟨fun z => ((z.2 (by omega)).2 (by omega)).2, fun z => ⟨fun e => absurd e (by omega), fun _ => ⟨fun e => absurd e (by omega), fun _ => ⟨vin (by omega) (by omega), z⟩⟩⟩⟩
theorem k_gapWidth (L : LayR h y tx meas len) (hF : FF tx len) {g : Nat} (hg : g < (lay tx meas len).1.2.2.1) : V_X2_gapWidth y (nI g) h K ↔ K ((lay tx meas len).2.2.2.2 g) h := by
  have hb := (lay_bound (meas := meas) hF).2
  obtain ⟨l1, -, -, -, -, ⟨c1, c2, c3⟩, -⟩ := L
  unfold V_X2_gapWidth V_X2_gapWidth_22 V_X2_gapWidth_23
  simp only [l1, c1, c2, true_and]
  rw [nle (nc := 30) (by omega) (by omega), ix_nI (by omega), c3 g hg]
  exact ⟨fun z => ((z.2 (cn0 (by omega))).2 (by omega)).2, fun z => ⟨fun e => absurd e (cn0 (by omega)), fun _ => ⟨fun e => absurd e (by omega), fun _ => ⟨vin (by omega) (by omega), z⟩⟩⟩⟩
theorem k_signAt (L : LayR h y tx meas len) (hF : FF tx len) {i : Nat} (hi : i < len) : V_X2_signAt y (nI i) h K ↔ K (tx i) h := by
  have hb := hF.2.1
  obtain ⟨l1, ⟨c1, c2, c3⟩, -⟩ := L
  unfold V_X2_signAt V_X2_signAt_22 V_X2_signAt_24
  simp only [l1, c1, c2, true_and]
  rw [nle (nc := 60) (by omega) (by omega), ix_nI (by omega), c3 i hi]
  exact ⟨fun z => ((z.2 (cn0 (by omega))).2 (by omega)).2.2, fun z => ⟨fun e => absurd e (cn0 (by omega)), fun _ => ⟨fun e => absurd e (by omega), fun _ => ⟨vin (by omega) (by omega), hF.cn hi, z⟩⟩⟩⟩
end CLAY
/-! spaces: what the Spacer holds behind n gaps -/
/-- fours, twos left; the last gap's; all -/
def SpR (W : Nat → Int32) (A B : Int32) (n : Nat) (φ5 : Nat → Int32) : Prop :=
  φ5 0 = A - (fl W A B n).1 ∧ φ5 1 = B - (fl W A B n).2.1 ∧ φ5 5 = (fl W A B n).1 ∧ φ5 6 = (fl W A B n).2.1 ∧ φ5 7 = (fl W A B n).2.2
theorem lst_lt (a b : Int32) : (if b < a then b else a) = lst a b := by
  unfold lst
  by_cases e : b < a
  · rw [if_pos e, if_pos (Int32.le_of_lt e)]
  · rw [if_neg e]
    by_cases e2 : b ≤ a
    · rw [if_pos e2]
      exact Int32.le_antisymm (Int32.not_lt.mp e) e2
    · rw [if_neg e2]
section CSP
variable {h0 h : Hp} {x q : Nat} {φ : Nat → Nat → Int32} {K : Hp → Prop}
theorem k_begin (y : XB h0 x q φ h) (A B : Int32) (W : Nat → Int32) (hK : ∀ h1 φ1, XB h0 x q φ1 h1 → (∀ k, k ≠ 5 → φ1 k = φ k) → SpR W A B 0 (φ1 5) → K h1) : V_X4_begin (hR h0 x 5) A B h K := by
  unfold V_X4_begin
  refine ⟨y.K 5 rfl, fun h1 e1 => ?_⟩
  have y1 := y.put 5 (Or.inl rfl) e1
  refine ⟨y1.K 5 rfl, fun h2 e2 => ?_⟩
  have y2 := y1.put 5 (Or.inl rfl) e2
  refine ⟨y2.K 5 rfl, fun h3 e3 => ?_⟩
  have y3 := y2.put 5 (Or.inl rfl) e3
  refine ⟨y3.K 5 rfl, fun h4 e4 => ?_⟩
  have y4 := y3.put 5 (Or.inl rfl) e4
  refine ⟨y4.K 5 rfl, fun h5 e5 => ?_⟩
  have y5 := y4.put 5 (Or.inl rfl) e5
  refine hK h5 _ y5 (fun k hk => ?_) ⟨?_, ?_, ?_, ?_, ?_⟩
  · funext j
    rw [up_f hk, up_f hk, up_f hk, up_f hk, up_f hk]
  · rw [up_i (by decide), up_i (by decide), up_i (by decide), up_i (by decide), up_s]; exact (Int32.sub_zero A).symm
  · rw [up_i (by decide), up_i (by decide), up_i (by decide), up_s]; exact (Int32.sub_zero B).symm
  · rw [up_i (by decide), up_i (by decide), up_s]; rfl
  · rw [up_i (by decide), up_s]; rfl
  · rw [up_s]; rfl
theorem k_fill (y : XB h0 x q φ h) {A B : Int32} {W : Nat → Int32} {n : Nat} (g : SpR W A B n (φ 5)) (hK : ∀ h1 φ1, XB h0 x q φ1 h1 → (∀ k, k ≠ 5 → φ1 k = φ k) → SpR W A B (n + 1) (φ1 5) → φ1 5 2 = f4 W A B n → φ1 5 3 = f2 W A B n → φ1 5 4 = f1 W A B n → K h1) : V_X4_fill (hR h0 x 5) (W n) h K := by
  obtain ⟨g1, g2, g3, g4, g5⟩ := g
  unfold V_X4_fill
  refine ⟨y.K 5 rfl, y.K 5 rfl, fun h1 e1 => ?_⟩
  rw [show hI h (hR h0 x 5) 0 = φ 5 0 from y.I 5 rfl 0, g1, lst_lt, show lst (W n / 4) (A - (fl W A B n).1) = f4 W A B n from rfl] at e1
  have y1 := y.put 5 (Or.inl rfl) e1
  refine ⟨y1.K 5 rfl, y1.K 5 rfl, y1.K 5 rfl, ?_⟩
  rw [show hI h1 (hR h0 x 5) 1 = B - (fl W A B n).2.1 from by rw [show hI h1 (hR h0 x 5) 1 = _ from y1.I 5 rfl 1, up_i (by decide)]; exact g2, show hI h1 (hR h0 x 5) 2 = f4 W A B n from by rw [show hI h1 (hR h0 x 5) 2 = _ from y1.I 5 rfl 2, up_s], lst_lt, show lst ((W n - 4 * f4 W A B n) / 2) (B - (fl W A B n).2.1) = f2 W A B n from rfl]
  intro h2 e2
  have y2 := y1.put 5 (Or.inl rfl) e2
  refine ⟨y2.K 5 rfl, y2.K 5 rfl, ?_⟩
  rw [show hI h2 (hR h0 x 5) 3 = f2 W A B n from by rw [show hI h2 (hR h0 x 5) 3 = _ from y2.I 5 rfl 3, up_s], show W n - 4 * f4 W A B n - 2 * f2 W A B n = f1 W A B n from rfl]
  intro h3 e3
  have y3 := y2.put 5 (Or.inl rfl) e3
  refine ⟨y3.K 5 rfl, y3.K 5 rfl, y3.K 5 rfl, fun h4 e4 => ?_⟩
  have y4 := y3.put 5 (Or.inl rfl) e4
  refine ⟨y4.K 5 rfl, y4.K 5 rfl, y4.K 5 rfl, fun h5 e5 => ?_⟩
  have y5 := y4.put 5 (Or.inl rfl) e5
  refine ⟨y5.K 5 rfl, y5.K 5 rfl, y5.K 5 rfl, fun h6 e6 => ?_⟩
  have y6 := y5.put 5 (Or.inl rfl) e6
  refine ⟨y6.K 5 rfl, y6.K 5 rfl, y6.K 5 rfl, fun h7 e7 => ?_⟩
  have y7 := y6.put 5 (Or.inl rfl) e7
  refine ⟨y7.K 5 rfl, y7.K 5 rfl, y7.K 5 rfl, fun h8 e8 => ?_⟩
  have y8 := y7.put 5 (Or.inl rfl) e8
  simp only [show ∀ i, hI h3 (hR h0 x 5) i = _ from y3.I 5 rfl, show ∀ i, hI h4 (hR h0 x 5) i = _ from y4.I 5 rfl, show ∀ i, hI h5 (hR h0 x 5) i = _ from y5.I 5 rfl, show ∀ i, hI h6 (hR h0 x 5) i = _ from y6.I 5 rfl, show ∀ i, hI h7 (hR h0 x 5) i = _ from y7.I 5 rfl] at y8
  refine hK h8 _ y8 (fun k hk => ?_) ⟨?_, ?_, ?_, ?_, ?_⟩ ?_ ?_ ?_
  · funext j
    simp only [up_f hk]
  · simp [up_e, g1, fl_S, i_sub_add]
  · simp [up_e, g2, fl_S, i_sub_add]
  · simp [up_e, g3, fl_S]
  · simp [up_e, g4, fl_S]
  · simp [up_e, g5, fl_S]
  · simp [up_e]
  · simp [up_e]
  · simp [up_e]
end CSP
