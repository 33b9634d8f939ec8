/-! widths are small; what fills the gaps, in numbers; to fill anew with what was used -/
theorem wd_nI {s : Nat} (hs : s < 29) : ∃ v, v ≤ 6 ∧ wd s = nI v := by
  unfold wd
  by_cases h1 : s < 26
  · rw [if_pos h1]
    exact ⟨2 + s % 5, by omega, nI_add 2 (s % 5)⟩
  · rw [if_neg h1]
    by_cases h2 : s = 26
    · rw [if_pos h2]; exact ⟨4, by omega, rfl⟩
    · rw [if_neg h2]
      by_cases h3 : s = 27
      · rw [if_pos h3]; exact ⟨2, by omega, rfl⟩
      · rw [if_neg h3]; exact ⟨1, by omega, rfl⟩
theorem sW_nI (tx : Nat → Int32) (a : Nat) : ∀ n, ∃ s, s ≤ 6 * n ∧ sW tx a n = nI s := by
  intro n
  induction n with
  | zero => exact ⟨0, Nat.le_refl _, rfl⟩
  | succ n ih =>
    obtain ⟨s, hs, e⟩ := ih
    unfold sW
    rw [e]
    by_cases h : isL (tx (a + n))
    · obtain ⟨u, hu, e1, -⟩ := isL_of h
      obtain ⟨v, hv, e2⟩ := wd_nI (show u < 29 by omega)
      rw [if_pos h]
      unfold lw
      rw [e1, ix_nI (by omega), e2, nI_add]
      exact ⟨s + v, by omega, rfl⟩
    · rw [if_neg h, Int32.add_zero]
      exact ⟨s, by omega, rfl⟩
theorem gw_nI {r g k : Nat} (hr : r < 2 ^ 31) (hg : 0 < g) (hg2 : g < 2 ^ 31) : ∃ v, v ≤ r + 1 ∧ gw (nI r) g k = nI v := by
  have hd : r / g ≤ r := Nat.div_le_self r g
  unfold gw
  rw [pk_div hr hg hg2]
  by_cases e : nI r - nI (r / g) * nI g ≤ nI k
  · rw [if_pos e, Int32.add_zero]; exact ⟨r / g, by omega, rfl⟩
  · rw [if_neg e]; exact ⟨r / g + 1, by omega, nI_1 _⟩
theorem lyI_wide {tx : Nat → Int32} {m len : Nat} (hm : m ≤ 150) (hlen : len ≤ 60) : ∀ i, i ≤ len + 1 → (lyI tx (nI m) len i).2.1.2.2.2 = false → ∀ g, g < (lyI tx (nI m) len i).2.1.2.2.1 → ∃ v, v ≤ 151 ∧ (lyI tx (nI m) len i).2.2.2.2.2 g = nI v := by
  intro i
  induction i with
  | zero => intro _ _ g hg; exact absurd hg (Nat.not_lt_zero _)
  | succ i ih =>
    intro hi
    unfold lyI
    by_cases e : i = len ∨ tx i = 47
    · rw [if_pos e]
      generalize hQ : (lyI tx (nI m) len i).1 = a
      intro hw g hg
      have hw' : ((lyI tx (nI m) len i).2.1.2.2.2 || decide (nI m - sW tx a (i - a) < nI (cB tx a (i - a)))) = false := hw
      rw [Bool.or_eq_false_iff] at hw'
      have w2 : ¬ nI m - sW tx a (i - a) < nI (cB tx a (i - a)) := of_decide_eq_false hw'.2
      have hg' : g < (lyI tx (nI m) len i).2.1.2.2.1 + gc (cB tx a (i - a)) := hg
      show ∃ v, v ≤ 151 ∧ (if (lyI tx (nI m) len i).2.1.2.2.1 ≤ g ∧ g < (lyI tx (nI m) len i).2.1.2.2.1 + gc (cB tx a (i - a)) then gw (nI m - sW tx a (i - a)) (gc (cB tx a (i - a))) (g - (lyI tx (nI m) len i).2.1.2.2.1) else (lyI tx (nI m) len i).2.2.2.2.2 g) = nI v
      by_cases z : (lyI tx (nI m) len i).2.1.2.2.1 ≤ g
      · rw [if_pos ⟨z, hg'⟩]
        obtain ⟨s, hs, es⟩ := sW_nI tx a (i - a)
        have hB := cB_le tx a (i - a)
        rw [es] at w2 ⊢
        rw [Int32.lt_iff_toInt_lt, pk_sub_toInt (by omega) (by omega), nI_toInt (by omega)] at w2
        rw [pk_sub (show s ≤ m by omega)]
        have hgc : gc (cB tx a (i - a)) < 2 ^ 31 := by unfold gc; split <;> omega
        obtain ⟨v, hv, ev⟩ := gw_nI (k := g - (lyI tx (nI m) len i).2.1.2.2.1) (show m - s < 2 ^ 31 by omega) (gc_pos (cB tx a (i - a))) hgc
        exact ⟨v, by omega, ev⟩
      · rw [if_neg (fun q => z q.1)]
        exact ih (by omega) hw'.1 g (by omega)
    · rw [if_neg e]; exact ih (by omega)
/-- a job whose text is laid, not too wide -/
def JW (ρ : Row) (j : Nat) : Prop := JT ρ j ∧ (∃ m, m ≤ 150 ∧ jb ρ j 1 = nI m) ∧ (jL ρ j).1.2.2.2 = false
theorem JW.wide {ρ : Row} {j : Nat} (h : JW ρ j) : ∃ w : Nat → Nat, ∀ g, g < (jL ρ j).1.2.2.1 → (jL ρ j).2.2.2.2 g = nI (w g) ∧ w g ≤ 151 := by
  obtain ⟨⟨h1, h2⟩, ⟨m, hm, em⟩, h3⟩ := h
  have key : ∀ g, ∃ v, g < (jL ρ j).1.2.2.1 → (jL ρ j).2.2.2.2 g = nI v ∧ v ≤ 151 := fun g => by
    by_cases hg : g < (jL ρ j).1.2.2.1
    · unfold jL jlay lay at hg h3 ⊢
      rw [em] at hg h3 ⊢
      obtain ⟨v, hv, ev⟩ := lyI_wide hm h2.2.1 (jlen ρ j + 1) (Nat.le_refl _) h3 g hg
      exact ⟨v, fun _ => ⟨ev, hv⟩⟩
    · exact ⟨0, fun z => absurd z hg⟩
  exact ⟨fun g => Classical.choose (key g), fun g => Classical.choose_spec (key g)⟩
/-- spaces of 4, 2, 1 ahead of the g-th gap -/
def fN (w : Nat → Nat) (A B : Nat) : Nat → Nat × Nat × Nat
  | 0 => (0, 0, 0)
  | g + 1 => ((fN w A B g).1 + min (w g / 4) (A - (fN w A B g).1), (fN w A B g).2.1 + min ((w g - 4 * min (w g / 4) (A - (fN w A B g).1)) / 2) (B - (fN w A B g).2.1),
      (fN w A B g).2.2 + (w g - 4 * min (w g / 4) (A - (fN w A B g).1) - 2 * min ((w g - 4 * min (w g / 4) (A - (fN w A B g).1)) / 2) (B - (fN w A B g).2.1)))
def n4 (w : Nat → Nat) (A B g : Nat) : Nat := min (w g / 4) (A - (fN w A B g).1)
def n2 (w : Nat → Nat) (A B g : Nat) : Nat := min ((w g - 4 * n4 w A B g) / 2) (B - (fN w A B g).2.1)
def n1 (w : Nat → Nat) (A B g : Nat) : Nat := w g - 4 * n4 w A B g - 2 * n2 w A B g
theorem fN_S (w : Nat → Nat) (A B g : Nat) : fN w A B (g + 1) = ((fN w A B g).1 + n4 w A B g, (fN w A B g).2.1 + n2 w A B g, (fN w A B g).2.2 + n1 w A B g) := rfl
theorem fN_le (w : Nat → Nat) (A B : Nat) : ∀ g, (fN w A B g).1 ≤ A ∧ (fN w A B g).2.1 ≤ B := by
  intro g
  induction g with
  | zero => exact ⟨Nat.zero_le _, Nat.zero_le _⟩
  | succ g ih =>
    rw [fN_S]
    unfold n2 n4
    show (fN w A B g).1 + min (w g / 4) (A - (fN w A B g).1) ≤ A ∧ (fN w A B g).2.1 + min ((w g - 4 * min (w g / 4) (A - (fN w A B g).1)) / 2) (B - (fN w A B g).2.1) ≤ B
    omega
theorem fN_1 {w : Nat → Nat} {A B G : Nat} (hw : ∀ g, g < G → w g ≤ 151) : ∀ g, g ≤ G → (fN w A B g).2.2 ≤ 151 * g := by
  intro g
  induction g with
  | zero => intro _; exact Nat.le_refl _
  | succ g ih =>
    intro hg
    have := ih (by omega)
    have := hw g (by omega)
    rw [fN_S]
    unfold n1
    show (fN w A B g).2.2 + (w g - 4 * n4 w A B g - 2 * n2 w A B g) ≤ _
    omega
theorem n_le {w : Nat → Nat} {A B g : Nat} : 4 * n4 w A B g + 2 * n2 w A B g + n1 w A B g = w g := by
  unfold n1 n2 n4
  omega
theorem fl_N {W : Nat → Int32} {w : Nat → Nat} {A B G : Nat} (hA : A < 2 ^ 30) (hB : B < 2 ^ 30) (hw : ∀ g, g < G → W g = nI (w g) ∧ w g ≤ 151) : ∀ g, g ≤ G → fl W (nI A) (nI B) g = (nI (fN w A B g).1, nI (fN w A B g).2.1, nI (fN w A B g).2.2) ∧ (g < G → f4 W (nI A) (nI B) g = nI (n4 w A B g) ∧ f2 W (nI A) (nI B) g = nI (n2 w A B g) ∧ f1 W (nI A) (nI B) g = nI (n1 w A B g)) := by
  have step : ∀ g, g < G → fl W (nI A) (nI B) g = (nI (fN w A B g).1, nI (fN w A B g).2.1, nI (fN w A B g).2.2) → f4 W (nI A) (nI B) g = nI (n4 w A B g) ∧ f2 W (nI A) (nI B) g = nI (n2 w A B g) ∧ f1 W (nI A) (nI B) g = nI (n1 w A B g) := by
    intro g hg e
    obtain ⟨w1, w2⟩ := hw g hg
    obtain ⟨l1, l2⟩ := fN_le w A B g
    have e4 : f4 W (nI A) (nI B) g = nI (n4 w A B g) := by
      unfold f4 n4
      rw [e, w1, show nI (w g) / 4 = nI (w g / 4) from pk_div (d := 4) (by omega) (by decide) (by decide)]
      show lst (nI (w g / 4)) (nI A - nI (fN w A B g).1) = _
      rw [pk_sub l1, lst_nI (by omega) (by omega)]
    have h4 : n4 w A B g ≤ w g / 4 := by unfold n4; omega
    have er : W g - 4 * f4 W (nI A) (nI B) g = nI (w g - 4 * n4 w A B g) := by
      rw [e4, w1, show (4 : Int32) * nI (n4 w A B g) = nI (4 * n4 w A B g) from pk_mul 4 _, pk_sub (by omega)]
    have e2 : f2 W (nI A) (nI B) g = nI (n2 w A B g) := by
      unfold f2 n2
      rw [er, e, show nI (w g - 4 * n4 w A B g) / 2 = nI ((w g - 4 * n4 w A B g) / 2) from pk_div (d := 2) (by omega) (by decide) (by decide)]
      show lst (nI ((w g - 4 * n4 w A B g) / 2)) (nI B - nI (fN w A B g).2.1) = _
      rw [pk_sub l2, lst_nI (by omega) (by omega)]
    have h2 : n2 w A B g ≤ (w g - 4 * n4 w A B g) / 2 := by unfold n2; omega
    refine ⟨e4, e2, ?_⟩
    unfold f1 n1
    rw [er, e2, show (2 : Int32) * nI (n2 w A B g) = nI (2 * n2 w A B g) from pk_mul 2 _, pk_sub (by omega)]
  have main : ∀ g, g ≤ G → fl W (nI A) (nI B) g = (nI (fN w A B g).1, nI (fN w A B g).2.1, nI (fN w A B g).2.2) := by
    intro g
    induction g with
    | zero => intro _; rfl
    | succ g ih =>
      intro hg
      obtain ⟨a, b, c⟩ := step g (by omega) (ih (by omega))
      rw [fl_S, a, b, c, ih (by omega), fN_S]
      show (nI _ + nI _, nI _ + nI _, nI _ + nI _) = _
      rw [nI_add, nI_add, nI_add]
  exact fun g hg => ⟨main g hg, fun h => step g h (main g hg)⟩
theorem fN_mono {w : Nat → Nat} {A B : Nat} : ∀ (d g : Nat), (fN w A B g).1 ≤ (fN w A B (g + d)).1 ∧ (fN w A B g).2.1 ≤ (fN w A B (g + d)).2.1 := by
  intro d
  induction d with
  | zero => intro g; exact ⟨Nat.le_refl _, Nat.le_refl _⟩
  | succ d ih =>
    intro g
    obtain ⟨a, b⟩ := ih g
    rw [show g + (d + 1) = (g + d) + 1 by omega, fN_S]
    exact ⟨Nat.le_trans a (Nat.le_add_right _ _), Nat.le_trans b (Nat.le_add_right _ _)⟩
/-- to fill with what was used comes out the same -/
theorem fN_again {w : Nat → Nat} {A B G : Nat} : ∀ g, g ≤ G → fN w (fN w A B G).1 (fN w A B G).2.1 g = fN w A B g ∧ (g < G → n4 w (fN w A B G).1 (fN w A B G).2.1 g = n4 w A B g ∧ n2 w (fN w A B G).1 (fN w A B G).2.1 g = n2 w A B g ∧ n1 w (fN w A B G).1 (fN w A B G).2.1 g = n1 w A B g) := by
  have step : ∀ g, g < G → fN w (fN w A B G).1 (fN w A B G).2.1 g = fN w A B g → n4 w (fN w A B G).1 (fN w A B G).2.1 g = n4 w A B g ∧ n2 w (fN w A B G).1 (fN w A B G).2.1 g = n2 w A B g ∧ n1 w (fN w A B G).1 (fN w A B G).2.1 g = n1 w A B g := by
    intro g hg e
    obtain ⟨m1, m2⟩ := @fN_mono w A B (G - (g + 1)) (g + 1)
    rw [show g + 1 + (G - (g + 1)) = G by omega, fN_S] at m1 m2
    have m1' : (fN w A B g).1 + n4 w A B g ≤ (fN w A B G).1 := m1
    have m2' : (fN w A B g).2.1 + n2 w A B g ≤ (fN w A B G).2.1 := m2
    obtain ⟨l1, l2⟩ := fN_le w A B G
    have e4 : n4 w (fN w A B G).1 (fN w A B G).2.1 g = n4 w A B g := by
      unfold n4 at m1' ⊢
      rw [e]; omega
    have e2 : n2 w (fN w A B G).1 (fN w A B G).2.1 g = n2 w A B g := by
      unfold n2 at m2' ⊢
      rw [e4, e]; omega
    refine ⟨e4, e2, ?_⟩
    unfold n1
    rw [e4, e2]
  have main : ∀ g, g ≤ G → fN w (fN w A B G).1 (fN w A B G).2.1 g = fN w A B g := by
    intro g
    induction g with
    | zero => intro _; rfl
    | succ g ih =>
      intro hg
      obtain ⟨a, b, c⟩ := step g (by omega) (ih (by omega))
      rw [fN_S, fN_S, a, b, c, ih (by omega)]
  exact fun g hg => ⟨main g hg, fun h => step g h (main g hg)⟩
/-- what a forme's gaps hold -/
def FilR (ρ : Row) (j : Nat) : Prop := ∃ A B, A < 2 ^ 20 ∧ B < 2 ^ 20 ∧ (∀ g, g < (jL ρ j).1.2.2.1 → jb ρ j (241 + g) = filV (f4 (jL ρ j).2.2.2.2 (nI A) (nI B) g) (f2 (jL ρ j).2.2.2.2 (nI A) (nI B) g) (f1 (jL ρ j).2.2.2.2 (nI A) (nI B) g)) ∧
  sm 6 (fun c => fm ρ j c 26) = (fl (jL ρ j).2.2.2.2 (nI A) (nI B) (jL ρ j).1.2.2.1).1 ∧ sm 6 (fun c => fm ρ j c 27) = (fl (jL ρ j).2.2.2.2 (nI A) (nI B) (jL ρ j).1.2.2.1).2.1
theorem filV_nI (a b c : Nat) : filV (nI a) (nI b) (nI c) = nI (1000000 * a + 1000 * b + c) := by
  unfold filV
  rw [show (1000000 : Int32) * nI a = nI (1000000 * a) from pk_mul _ _, show (1000 : Int32) * nI b = nI (1000 * b) from pk_mul _ _, nI_add, nI_add]
theorem fil_parts {a b c : Nat} (ha : a < 1000) (hb : b < 1000) (hc : c < 1000) : nI (1000000 * a + 1000 * b + c) / 1000000 = nI a ∧ nI (1000000 * a + 1000 * b + c) / 1000 - nI (1000000 * a + 1000 * b + c) / 1000 / 1000 * 1000 = nI b ∧ nI (1000000 * a + 1000 * b + c) - nI (1000000 * a + 1000 * b + c) / 1000 * 1000 = nI c := by
  have h31 : 1000000 * a + 1000 * b + c < 2 ^ 31 := by omega
  have e1 : nI (1000000 * a + 1000 * b + c) / 1000 = nI (1000 * a + b) := (pk_div (d := 1000) h31 (by decide) (by decide)).trans (by congr 1; omega)
  refine ⟨(pk_div (d := 1000000) h31 (by decide) (by decide)).trans (by congr 1; omega), ?_, ?_⟩
  · rw [e1]
    exact (pk_rem (a := 1000 * a + b) (d := 1000) (by omega) (by decide) (by decide)).trans (by congr 1; omega)
  · exact (pk_rem (d := 1000) h31 (by decide) (by decide)).trans (by congr 1; omega)
