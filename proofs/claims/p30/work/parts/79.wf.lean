/-! what holds of every row -/
theorem jL_same {ρ ρ' : Row} {j : Nat} (e : ∀ w, (w < 3 ∨ (6 ≤ w ∧ w < 67)) → jb ρ' j w = jb ρ j w) (hF : JT ρ j) : jL ρ' j = jL ρ j := by
  obtain ⟨el, et, -⟩ := JT.same e hF
  unfold jL jlay
  rw [el, e 1 (by omega)]
  exact (lay_congr et).symm
theorem JW.same {ρ ρ' : Row} {j : Nat} (e : ∀ w, (w < 3 ∨ (6 ≤ w ∧ w < 67)) → jb ρ' j w = jb ρ j w) (h : JW ρ j) : JW ρ' j := by
  obtain ⟨h1, h2, h3⟩ := h
  exact ⟨(JT.same e h1).2.2, by rw [e 1 (by omega)]; exact h2, by rw [jL_same e h1]; exact h3⟩
theorem FilR.same {ρ ρ' : Row} {j : Nat} (e : ∀ w, (w < 3 ∨ (6 ≤ w ∧ w < 272)) → jb ρ' j w = jb ρ j w) (hF : JT ρ j) (h : FilR ρ j) : FilR ρ' j := by
  have hg30 : (jL ρ j).1.2.2.1 ≤ 30 := (lay_bound (meas := jb ρ j 1) hF.2).2
  obtain ⟨A, B, hA, hB, f1, f2, f3⟩ := h
  have el := jL_same (fun w hw => e w (by omega)) hF
  refine ⟨A, B, hA, hB, fun g hg => ?_, ?_, ?_⟩
  · rw [el] at hg ⊢
    rw [e _ (by omega)]; exact f1 g hg
  · rw [el, ← f2]
    exact sm_congr (fun c hc => e _ (by omega))
  · rw [el, ← f3]
    exact sm_congr (fun c hc => e _ (by omega))
def JWF (ρ : Row) (nc j : Nat) : Prop :=
  JW ρ j ∧ (∃ c, c < nc ∧ jb ρ j 0 = nI c) ∧ (∀ c s, c < 6 → s < 29 → ∃ n, n ≤ 99 ∧ fm ρ j c s = nI n) ∧ (∀ c s, nc ≤ c → c < 6 → s < 29 → fm ρ j c s = 0) ∧ (¬ (jb ρ j 3 = 1 ∨ jb ρ j 3 = 2) → ∀ c s, c < 6 → s < 29 → fm ρ j c s = 0) ∧
  ((jb ρ j 3 = 1 ∨ jb ρ j 3 = 2) → FilR ρ j) ∧ jb ρ j 5 = lateC ρ j ∧ ((jb ρ j 3 = 0 ∨ jb ρ j 3 = 1) → jb ρ j 4 = -5)
theorem lateC_same {ρ ρ' : Row} {j : Nat} (e4 : jb ρ' j 4 = jb ρ j 4) (e2 : jb ρ' j 2 = jb ρ j 2) : lateC ρ' j = lateC ρ j := by
  unfold lateC
  rw [e4, e2]
theorem JWF.same {ρ ρ' : Row} {nc nc' j : Nat} (e : ∀ w, w < 272 → jb ρ' j w = jb ρ j w) (hn : nc ≤ nc') (h : JWF ρ nc j) : JWF ρ' nc' j := by
  obtain ⟨h1, ⟨c, h2, h2'⟩, h3, h4, h5, h6, h7, h8⟩ := h
  have ef : ∀ c s, c < 6 → s < 29 → fm ρ' j c s = fm ρ j c s := fun c s a b => e (67 + 29 * c + s) (by omega)
  refine ⟨h1.same (fun w _ => e w (by omega)), ⟨c, by omega, by rw [e 0 (by decide)]; exact h2'⟩, fun c s a b => by rw [ef c s a b]; exact h3 c s a b, fun c s a b d => by rw [ef c s b d]; exact h4 c s (by omega) b d, ?_, ?_, ?_, ?_⟩
  · rw [e 3 (by decide)]
    exact fun z c s a b => by rw [ef c s a b]; exact h5 z c s a b
  · rw [e 3 (by decide)]
    exact fun z => (h6 z).same (fun w _ => e w (by omega)) h1.1
  · rw [e 5 (by decide), lateC_same (e 4 (by decide)) (e 2 (by decide))]; exact h7
  · rw [e 3 (by decide), e 4 (by decide)]; exact h8
def WF (ρ : Row) (t : Nat) : Prop := ∃ nc nj d, nc ≤ 6 ∧ nj ≤ 12 ∧ d ≤ 30 * t ∧ ρ 0 = nI nc ∧ ρ 1 = nI nj ∧ ρ 3 = nI d ∧ (∀ c s, c < 6 → s < 29 → ∃ n, n ≤ 99 ∧ ρ (8 + 29 * c + s) = nI n) ∧ (∀ c s, nc ≤ c → c < 6 → s < 29 → ρ (8 + 29 * c + s) = 0) ∧ ∀ j, j < nj → JWF ρ nc j
theorem WF.same {ρ ρ' : Row} {t t' : Nat} (ht : t ≤ t') (e : ∀ y, y < 3475 → (y = 0 ∨ y = 1 ∨ y = 3 ∨ (8 ≤ y ∧ y < 182) ∨ 211 ≤ y) → ρ' y = ρ y) (h : WF ρ t) : WF ρ' t' := by
  obtain ⟨nc, nj, d, h1, h2, h3, h4, h5, h6, h7, h8, h9⟩ := h
  refine ⟨nc, nj, d, h1, h2, by omega, by rw [e 0 (by decide) (by omega)]; exact h4, by rw [e 1 (by decide) (by omega)]; exact h5, by rw [e 3 (by decide) (by omega)]; exact h6, fun c s a b => by rw [e _ (by omega) (by omega)]; exact h7 c s a b, fun c s a b d => by rw [e _ (by omega) (by omega)]; exact h8 c s a b d, fun j hj => (h9 j hj).same (fun w hw => e _ (by omega) (by omega)) (Nat.le_refl nc)⟩
theorem WF.congr {ρ ρ' : Row} {t t' : Nat} (ht : t ≤ t') (e : ∀ y, y < 3475 → ρ' y = ρ y) (h : WF ρ t) : WF ρ' t' := h.same ht (fun y hy _ => e y hy)
theorem WF.zero (t : Nat) : WF (fun _ => 0) t := ⟨0, 0, 0, by decide, by decide, by omega, rfl, rfl, rfl, fun _ _ _ _ => ⟨0, by decide, rfl⟩, fun _ _ _ _ _ => rfl, fun j hj => absurd hj (Nat.not_lt_zero _)⟩
/-! sums of small numbers -/
def sN (n : Nat) (f : Nat → Nat) : Nat := match n with
  | 0 => 0
  | n + 1 => sN n f + f n
theorem sm_sN {n : Nat} {f : Nat → Int32} {M : Nat → Nat} (h : ∀ i, i < n → f i = nI (M i)) : sm n f = nI (sN n M) := by
  induction n with
  | zero => rfl
  | succ n ih => rw [smS, ih (fun i hi => h i (by omega)), h n (by omega), nI_add]; rfl
theorem sN_le {n : Nat} {M : Nat → Nat} {B : Nat} (h : ∀ i, i < n → M i ≤ B) : sN n M ≤ n * B := by
  induction n with
  | zero => exact Nat.zero_le _
  | succ n ih =>
    have := ih (fun i hi => h i (by omega))
    have := h n (by omega)
    show sN n M + M n ≤ (n + 1) * B
    rw [Nat.succ_mul]; omega
theorem nd_nI (tx : Nat → Int32) (s : Nat) : ∀ n, ∃ v, v ≤ n ∧ nd tx s n = nI v := by
  intro n
  induction n with
  | zero => exact ⟨0, Nat.le_refl _, rfl⟩
  | succ n ih =>
    obtain ⟨v, hv, e⟩ := ih
    unfold nd
    rw [e]
    by_cases q : isL (tx n) ∧ ix (tx n - 97) = s
    · rw [if_pos q, nI_1]; exact ⟨v + 1, by omega, rfl⟩
    · rw [if_neg q, Int32.add_zero]; exact ⟨v, by omega, rfl⟩
theorem thr_nI {ρ : Row} {nc j s : Nat} (h6 : nc ≤ 6) (hs : s < 29) (h7 : ∀ c s, c < 6 → s < 29 → ∃ n, n ≤ 99 ∧ ρ (8 + 29 * c + s) = nI n) (h3 : ∀ c s, c < 6 → s < 29 → ∃ n, n ≤ 99 ∧ fm ρ j c s = nI n) : ∃ b, b ≤ 1188 ∧ thr ρ nc j s = nI b := by
  have key : ∀ c, ∃ m, c < 6 → m ≤ 198 ∧ ρ (8 + 29 * c + s) + (if jb ρ j 3 = 1 ∨ jb ρ j 3 = 2 then fm ρ j c s else 0) = nI m := fun c => by
    by_cases hc : c < 6
    · obtain ⟨a, ha, ea⟩ := h7 c s hc hs
      obtain ⟨b, hb, eb⟩ := h3 c s hc hs
      rw [ea, eb]
      by_cases q : jb ρ j 3 = 1 ∨ jb ρ j 3 = 2
      · rw [if_pos q, nI_add]; exact ⟨a + b, fun _ => ⟨by omega, rfl⟩⟩
      · rw [if_neg q, Int32.add_zero]; exact ⟨a, fun _ => ⟨by omega, rfl⟩⟩
    · exact ⟨0, fun z => absurd z hc⟩
  have ⟨M, hM⟩ := Classical.axiomOfChoice key
  refine ⟨sN nc M, ?_, sm_sN (fun i hi => (hM i (by omega)).2)⟩
  have := sN_le (n := nc) (M := M) (B := 198) (fun i hi => (hM i (by omega)).1)
  have : nc * 198 ≤ 6 * 198 := Nat.mul_le_mul_right _ h6
  omega
theorem hsm_of {ρ : Row} {nc j s : Nat} (h6 : nc ≤ 6) (hs : s < 29) (h7 : ∀ c s, c < 6 → s < 29 → ∃ n, n ≤ 99 ∧ ρ (8 + 29 * c + s) = nI n) (h : JWF ρ nc j) : ∃ a b, a < 2 ^ 20 ∧ b < 2 ^ 20 ∧ ndF ρ nc j (jlen ρ j) s = nI a ∧ thr ρ nc j s = nI b := by
  obtain ⟨hW, -, h3, -⟩ := h
  obtain ⟨b, hb, eb⟩ := thr_nI h6 hs h7 h3
  obtain ⟨A, hA, eA⟩ := thr_nI (s := 26) h6 (by decide) h7 h3
  obtain ⟨B, hB, eB⟩ := thr_nI (s := 27) h6 (by decide) h7 h3
  obtain ⟨w, hw⟩ := hW.wide
  have hg30 : (jL ρ j).1.2.2.1 ≤ 30 := (lay_bound (meas := jb ρ j 1) hW.1.2).2
  have fl := (fl_N (W := (jL ρ j).2.2.2.2) (w := w) (A := A) (B := B) (by omega) (by omega) hw _ (Nat.le_refl _)).1
  have l4 := (fN_le w A B (jL ρ j).1.2.2.1).1
  have l2 := (fN_le w A B (jL ρ j).1.2.2.1).2
  have l1 := fN_1 (w := w) (A := A) (B := B) (fun g hg => (hw g hg).2) _ (Nat.le_refl (jL ρ j).1.2.2.1)
  have ej : jfl ρ nc j (jlen ρ j) (jlay ρ j (jlen ρ j)).1.2.2.1 = (nI (fN w A B (jL ρ j).1.2.2.1).1, nI (fN w A B (jL ρ j).1.2.2.1).2.1, nI (fN w A B (jL ρ j).1.2.2.1).2.2) := by
    unfold jfl
    rw [eA, eB]
    exact fl
  have t60 := hW.1.2.2.1
  unfold ndF
  rw [ej]
  by_cases q1 : s < 26
  · obtain ⟨v, hv, ev⟩ := nd_nI (jtx ρ j) s (jlen ρ j)
    rw [if_pos q1]
    exact ⟨v, b, by omega, by omega, ev, eb⟩
  · rw [if_neg q1]
    by_cases q2 : s = 26
    · rw [if_pos q2]; exact ⟨_, b, by omega, by omega, rfl, eb⟩
    · rw [if_neg q2]
      by_cases q3 : s = 27
      · rw [if_pos q3]; exact ⟨_, b, by omega, by omega, rfl, eb⟩
      · rw [if_neg q3]; exact ⟨_, b, by omega, by omega, rfl, eb⟩
theorem lk_nI {ρ : Row} {nc j s : Nat} (h : ∃ a b, a < 2 ^ 20 ∧ b < 2 ^ 20 ∧ ndF ρ nc j (jlen ρ j) s = nI a ∧ thr ρ nc j s = nI b) : ∃ v, v < 2 ^ 20 ∧ lkF ρ nc j s = nI v := by
  obtain ⟨a, b, ha, hb, ea, eb⟩ := h
  unfold lkF
  rw [ea, eb]
  by_cases q : nI a ≤ nI b
  · rw [if_pos q]; exact ⟨0, by decide, rfl⟩
  · rw [if_neg q]
    rw [nle (by omega) (by omega)] at q
    rw [pk_sub (by omega)]
    exact ⟨a - b, by omega, rfl⟩
theorem i_sc (a b c : Int32) : a - b + c = a - (b - c) := by
  simp only [Int32.sub_eq_add_neg, Int32.neg_add, Int32.neg_neg, Int32.add_assoc]
/-- what is taken of a sort is what is needed, if there are so many -/
theorem tk_all {ρ : Row} {hm s a : Nat} {M : Nat → Nat} (ha : a < 2 ^ 20) (hm6 : hm < 6) (hρ : ∀ c, c < 6 → ρ (8 + 29 * c + s) = nI (M c) ∧ M c ≤ 99) (hle : a ≤ sN 6 M) : sm 6 (fun c => tk ρ hm s (nI a) c) = nI a := by
  have h0 : ∀ k, k ≤ 6 → lf ρ hm s (nI a) k = nI (a - (M hm + sN k (fun c => if c = hm then 0 else M c))) := by
    intro k
    induction k with
    | zero =>
      intro _
      show nI a - lst (nI a) (ρ (8 + 29 * hm + s)) = nI (a - (M hm + 0))
      rw [(hρ hm hm6).1, lst_nI (by omega) (by have := (hρ hm hm6).2; omega), pk_sub (Nat.min_le_left _ _)]
      congr 1; omega
    | succ k ih =>
      intro hk
      show lf ρ hm s (nI a) k - (if k = hm then 0 else lst (lf ρ hm s (nI a) k) (ρ (8 + 29 * k + s))) = nI (a - (M hm + (sN k (fun c => if c = hm then 0 else M c) + (if k = hm then 0 else M k))))
      rw [ih (by omega)]
      by_cases q : k = hm
      · rw [if_pos q, if_pos q, Int32.sub_zero, Nat.add_zero]
      · rw [if_neg q, if_neg q, (hρ k (by omega)).1, lst_nI (by omega) (by have := (hρ k (by omega)).2; omega), pk_sub (Nat.min_le_left _ _)]
        congr 1; omega
  have h1 : ∀ k, sm k (fun c => if c = hm then 0 else tk ρ hm s (nI a) c) = lf ρ hm s (nI a) 0 - lf ρ hm s (nI a) k := by
    intro k
    induction k with
    | zero => rw [sm0, Int32.sub_self]
    | succ k ih =>
      rw [smS, ih]
      show _ = lf ρ hm s (nI a) 0 - (lf ρ hm s (nI a) k - (if k = hm then 0 else lst (lf ρ hm s (nI a) k) (ρ (8 + 29 * k + s))))
      by_cases q : k = hm
      · rw [if_pos q, if_pos q, Int32.add_zero, Int32.sub_zero]
      · rw [if_neg q, if_neg q, show tk ρ hm s (nI a) k = lst (lf ρ hm s (nI a) k) (ρ (8 + 29 * k + s)) from if_neg q, i_sc]
  have hS : M hm + sN 6 (fun c => if c = hm then 0 else M c) = sN 6 M := by
    have : ∀ k, sN k (fun c => if c = hm then 0 else M c) + (if hm < k then M hm else 0) = sN k M := by
      intro k
      induction k with
      | zero => rfl
      | succ k ih =>
        show sN k (fun c => if c = hm then 0 else M c) + (if k = hm then 0 else M k) + (if hm < k + 1 then M hm else 0) = sN k M + M k
        rw [← ih]
        by_cases q : k = hm
        · subst q
          rw [if_pos rfl, if_pos (by omega), if_neg (by omega)]
        · rw [if_neg q]
          by_cases q2 : hm < k
          · rw [if_pos (by omega), if_pos q2]; omega
          · rw [if_neg (by omega), if_neg q2]; omega
    have := this 6
    rw [if_pos hm6] at this
    omega
  rw [sm_but hm6 (fun c => tk ρ hm s (nI a) c), h1 6, h0 6 (Nat.le_refl 6), hS, show a - sN 6 M = 0 by omega]
  show nI a - tkh ρ hm s (nI a) - nI 0 + tk ρ hm s (nI a) hm = nI a
  rw [show tk ρ hm s (nI a) hm = tkh ρ hm s (nI a) from if_pos rfl, show nI 0 = 0 from rfl, Int32.sub_zero, Int32.sub_eq_add_neg, Int32.add_assoc, Int32.add_left_neg, Int32.add_zero]
