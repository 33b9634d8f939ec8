/-! what a job needs, what is there -/
def lst (a b : Int32) : Int32 := if b ≤ a then b else a
def thr (ρ : Row) (nc j s : Nat) : Int32 := sm nc (fun c => ρ (8 + 29 * c + s) + (if jb ρ j 3 = 1 ∨ jb ρ j 3 = 2 then fm ρ j c s else 0))
def nd (tx : Nat → Int32) (s : Nat) : Nat → Int32
  | 0 => 0
  | n + 1 => nd tx s n + (if isL (tx n) ∧ ix (tx n - 97) = s then 1 else 0)
/-- the spaces of 4, 2, 1 that fill the gaps ahead of the g-th -/
def fl (W : Nat → Int32) (A B : Int32) : Nat → Int32 × Int32 × Int32
  | 0 => (0, 0, 0)
  | g + 1 => ((fl W A B g).1 + lst (W g / 4) (A - (fl W A B g).1), (fl W A B g).2.1 + lst ((W g - 4 * lst (W g / 4) (A - (fl W A B g).1)) / 2) (B - (fl W A B g).2.1),
      (fl W A B g).2.2 + (W g - 4 * lst (W g / 4) (A - (fl W A B g).1) - 2 * lst ((W g - 4 * lst (W g / 4) (A - (fl W A B g).1)) / 2) (B - (fl W A B g).2.1)))
def f4 (W : Nat → Int32) (A B : Int32) (g : Nat) : Int32 := lst (W g / 4) (A - (fl W A B g).1)
def f2 (W : Nat → Int32) (A B : Int32) (g : Nat) : Int32 := lst ((W g - 4 * f4 W A B g) / 2) (B - (fl W A B g).2.1)
def f1 (W : Nat → Int32) (A B : Int32) (g : Nat) : Int32 := W g - 4 * f4 W A B g - 2 * f2 W A B g
theorem fl_S (W : Nat → Int32) (A B : Int32) (g : Nat) : fl W A B (g + 1) = ((fl W A B g).1 + f4 W A B g, (fl W A B g).2.1 + f2 W A B g, (fl W A B g).2.2 + f1 W A B g) := rfl
def jfl (ρ : Row) (nc j len : Nat) : Nat → Int32 × Int32 × Int32 := fl (jlay ρ j len).2.2.2.2 (thr ρ nc j 26) (thr ρ nc j 27)
def ndF (ρ : Row) (nc j len s : Nat) : Int32 := if s < 26 then nd (jtx ρ j) s len else if s = 26 then (jfl ρ nc j len (jlay ρ j len).1.2.2.1).1 else if s = 27 then (jfl ρ nc j len (jlay ρ j len).1.2.2.1).2.1 else (jfl ρ nc j len (jlay ρ j len).1.2.2.1).2.2
/-- behind layNeeds -/
def NRel (ρ : Row) (nc j len : Nat) (σ : Nat → Nat → Int32) : Prop :=
  (∀ s, s < 29 → σ 17 s = ndF ρ nc j len s ∧ σ 18 s = thr ρ nc j s) ∧ ∀ g, g < (jlay ρ j len).1.2.2.1 → σ 19 g = f4 (jlay ρ j len).2.2.2.2 (thr ρ nc j 26) (thr ρ nc j 27) g ∧ σ 20 g = f2 (jlay ρ j len).2.2.2.2 (thr ρ nc j 26) (thr ρ nc j 27) g ∧ σ 21 g = f1 (jlay ρ j len).2.2.2.2 (thr ρ nc j 26) (thr ρ nc j 27) g
theorem LRel.same {L : LySt} {σ σ1 : Nat → Nat → Int32} (h : LRel L σ) (e : ∀ f, 9 ≤ f → f ≤ 16 → σ1 f = σ f) : LRel L σ1 := by
  unfold LRel
  rw [e 9 (by decide) (by decide), e 10 (by decide) (by decide), e 11 (by decide) (by decide), e 16 (by decide) (by decide), e 12 (by decide) (by decide), e 13 (by decide) (by decide), e 14 (by decide) (by decide), e 15 (by decide) (by decide)]
  exact h
section MNEEDS
variable {h0 h : Hp} {m : Nat} {σ : Nat → Nat → Int32} {K : Hp → Prop}
theorem s_ln29 {j nc S : Nat} (hj : j < 12) (h6 : nc ≤ 6) (hS : S < 29) (σ0 : Nat → Nat → Int32) (hn : σ0 0 0 = nI nc) {C7 : Nat → Int32 → Int32 → Hp → Prop}
    (hC : ∀ h1 σ1, MB h0 m σ1 h1 → (∀ f, f ≠ 18 → σ1 f = σ0 f) → σ1 18 S = thr (σ0 0) nc j S → (∀ s, s ≠ S → σ1 18 s = σ0 18 s) → C7 m (nI j) (nI (S + 1)) h1) :
    ∀ (d c n : Nat) (σ : Nat → Nat → Int32) (h : Hp), c + d = nc → d < n → MB h0 m σ h → (∀ f, f ≠ 18 → σ f = σ0 f) → σ 18 S = sm c (fun c => σ0 0 (8 + 29 * c + S) + (if jb (σ0 0) j 3 = 1 ∨ jb (σ0 0) j 3 = 2 then fm (σ0 0) j c S else 0)) → (∀ s, s ≠ S → σ 18 s = σ0 18 s) → V_X7_layNeeds_29 K C7 n m (nI j) (nI S) (nI c) h := by
  intro d
  induction d with
  | zero =>
    intro i n σ h h1 h2 x f1 g1 g2
    obtain ⟨n, rfl⟩ : ∃ k, n = k + 1 := ⟨n - 1, by omega⟩
    obtain rfl : i = nc := by omega
    unfold V_X7_layNeeds_29
    simp only [x.s, LT, true_and, f1 0 (by decide), hn, nI_1]
    rw [nle (by omega) (by omega)]
    exact ⟨fun _ => hC h σ x f1 g1 g2, fun q => absurd (Nat.le_refl _) q⟩
  | succ d ih =>
    intro i n σ h h1 h2 x f1 g1 g2
    obtain ⟨n, rfl⟩ : ∃ k, n = k + 1 := ⟨n - 1, by omega⟩
    unfold V_X7_layNeeds_29
    simp only [x.s, LT, true_and, f1 0 (by decide), hn, ix_nI (show S < 2 ^ 31 by omega), show vp_in (nI S) 29 from vin (by omega) (by omega), s_has x (show i < 6 by omega) hS, s_hasForme x hj, s_inForme x hj (show i < 6 by omega) hS]
    rw [nle (by omega) (by omega)]
    refine ⟨fun q => absurd q (by omega), fun _ => ?_⟩
    have go : ∀ v : Int32, v = (if jb (σ0 0) j 3 = 1 ∨ jb (σ0 0) j 3 = 2 then fm (σ0 0) j i S else 0) → V_X7_layNeeds_71 K C7 (V_X7_layNeeds_29 K C7 n) m (nI j) (nI S) (nI i) (hR h0 m 18) (nI S) (σ 18 S) (σ0 0 (8 + 29 * i + S)) v h := by
      intro v hv
      unfold V_X7_layNeeds_71
      simp only [x.s, true_and, ix_nI (show S < 2 ^ 31 by omega), show vp_in (nI S) 29 from vin (by omega) (by omega), nI_1]
      intro h1 e1
      refine ih (i + 1) n _ h1 (by omega) (by omega) (x.pa 18 rfl e1) (fun f hf => by rw [← f1 f hf]; funext y; exact up_f hf) ?_ (fun s hs => by rw [up_i hs]; exact g2 s hs)
      rw [up_s, g1, hv, smS]
    by_cases e : σ0 0 (211 + 272 * j + 3) = 1 ∨ σ0 0 (211 + 272 * j + 3) = 2
    · rw [if_pos e]
      refine ⟨fun q => absurd q ne01, fun _ => go _ ?_⟩
      rw [show (if jb (σ0 0) j 3 = 1 ∨ jb (σ0 0) j 3 = 2 then fm (σ0 0) j i S else 0) = fm (σ0 0) j i S from if_pos e]
      rfl
    · rw [if_neg e]
      refine ⟨fun _ => go _ ?_, fun q => absurd rfl q⟩
      rw [show (if jb (σ0 0) j 3 = 1 ∨ jb (σ0 0) j 3 = 2 then fm (σ0 0) j i S else 0) = 0 from if_neg e]
theorem s_ln7 {j nc : Nat} (hj : j < 12) (h6 : nc ≤ 6) (σ0 : Nat → Nat → Int32) (hn : σ0 0 0 = nI nc)
    (hK : ∀ h1 σ1, MB h0 m σ1 h1 → (∀ f, f ≤ 16 → σ1 f = σ0 f) → (∀ s, s < 29 → σ1 17 s = 0 ∧ σ1 18 s = thr (σ0 0) nc j s) → ∃ n9, V_X7_layNeeds_88 K n9 m 0 h1) :
    ∀ (d S n : Nat) (σ : Nat → Nat → Int32) (h : Hp), S + d = 29 → d < n → MB h0 m σ h → (∀ f, f ≤ 16 → σ f = σ0 f) → (∀ s, s < S → σ 17 s = 0 ∧ σ 18 s = thr (σ0 0) nc j s) → V_X7_layNeeds_7 K n m (nI j) (nI S) h := by
  intro d
  induction d with
  | zero =>
    intro i n σ h h1 h2 x f1 g1
    obtain ⟨n, rfl⟩ : ∃ k, n = k + 1 := ⟨n - 1, by omega⟩
    obtain rfl : i = 29 := by omega
    exact ⟨fun _ => hK h σ x f1 g1, fun z => absurd (by decide) z⟩
  | succ d ih =>
    intro i n σ h h1 h2 x f1 g1
    obtain ⟨n, rfl⟩ : ∃ k, n = k + 1 := ⟨n - 1, by omega⟩
    unfold V_X7_layNeeds_7
    rw [c29 (by omega)]
    refine ⟨fun q => absurd q (by omega), fun _ => ?_⟩
    simp only [x.s, true_and, ix_nI (show i < 2 ^ 31 by omega), show vp_in (nI i) 29 from vin (by omega) (by omega)]
    intro h1 e1
    have x1 := x.pa 17 rfl e1
    simp only [x1.s, true_and, show vp_in (nI i) 29 from vin (by omega) (by omega)]
    intro h2 e2
    have x2 := x1.pa 18 rfl e2
    have hup : ∀ f, f ≤ 16 → up (up σ 17 i 0) 18 i 0 f = σ0 f := fun f hf => by rw [← f1 f hf]; funext y; rw [up_f (by omega), up_f (by omega)]
    refine ⟨nc + 1, s_ln29 (K := K) hj h6 (show i < 29 by omega) (up (up σ 17 i 0) 18 i 0) (by rw [hup 0 (by decide)]; exact hn) (C7 := V_X7_layNeeds_7 K n) (fun h3 σ3 x3 k1 k2 k3 => ?_) nc 0 (nc + 1) _ h2 (by omega) (by omega) x2 (fun _ _ => rfl) (up_s _ _ _ _) (fun _ _ => rfl)⟩
    refine ih (i + 1) n σ3 h3 (by omega) (by omega) x3 (fun f hf => (k1 f (by omega)).trans (hup f hf)) (fun s hs => ?_)
    rw [k1 17 (by decide), up_f (by decide)]
    rw [hup 0 (by decide)] at k2
    by_cases e : s = i
    · subst e
      exact ⟨up_s _ _ _ _, k2⟩
    · rw [up_i e, k3 s e, up_i e, up_f (by decide)]
      exact g1 s (by omega)
theorem s_ln88 {j nc len : Nat} (tx : Nat → Int32) (hlen : len ≤ 60) (σ0 : Nat → Nat → Int32) (h7 : σ0 7 0 = nI len) (htx : ∀ i, i < len → σ0 8 i = tx i) (h17 : ∀ s, s < 29 → σ0 17 s = 0)
    (hK : ∀ h1 σ1, MB h0 m σ1 h1 → (∀ f, f ≠ 17 → σ1 f = σ0 f) → (∀ s, s < 29 → σ1 17 s = if s < 26 then nd tx s len else 0) → ∃ n9, V_X7_layNeeds_134 K n9 m 0 h1) :
    ∀ (d i n : Nat) (σ : Nat → Nat → Int32) (h : Hp), i + d = len → d < n → MB h0 m σ h → (∀ f, f ≠ 17 → σ f = σ0 f) → (∀ s, s < 29 → σ 17 s = if s < 26 then nd tx s i else 0) → V_X7_layNeeds_88 K n m (nI i) h := by
  intro d
  induction d with
  | zero =>
    intro i n σ h h1 h2 x f1 g1
    obtain ⟨n, rfl⟩ : ∃ k, n = k + 1 := ⟨n - 1, by omega⟩
    obtain rfl : i = len := by omega
    unfold V_X7_layNeeds_88
    simp only [x.s, true_and, f1 7 (by decide), h7]
    rw [nle (by omega) (by omega)]
    exact ⟨fun _ => hK h σ x f1 g1, fun q => absurd (Nat.le_refl _) q⟩
  | succ d ih =>
    intro i n σ h h1 h2 x f1 g1
    obtain ⟨n, rfl⟩ : ∃ k, n = k + 1 := ⟨n - 1, by omega⟩
    unfold V_X7_layNeeds_88 V_X7_layNeeds_126
    have et : σ0 8 i = tx i := htx i (by omega)
    simp only [x.s, true_and, f1 7 (by decide), f1 8 (by decide), h7, et, ix_nI (show i < 2 ^ 31 by omega), show vp_in (nI i) 60 from vin (by omega) (by omega), s_isLetter, nI_1]
    rw [nle (by omega) (by omega)]
    refine ⟨fun q => absurd q (by omega), fun _ => ?_⟩
    by_cases hl : isL (tx i)
    · rw [if_neg hl]
      refine ⟨fun q => absurd q ne01, fun _ => ?_⟩
      obtain ⟨s, s1, s2, s3⟩ := isL_of hl
      rw [s2]
      simp only [true_and, ix_nI (show s < 2 ^ 31 by omega), show vp_in (nI s) 29 from vin (by omega) (by omega)]
      intro h1 e1
      refine ih (i + 1) n _ h1 (by omega) (by omega) (x.pa 17 rfl e1) (fun f hf => by rw [← f1 f hf]; funext y; exact up_f hf) (fun t ht => ?_)
      unfold nd
      rw [s2, ix_nI (by omega)]
      by_cases e : t = s
      · subst e
        rw [up_s, g1 t ht, if_pos s1, if_pos s1, if_pos ⟨hl, rfl⟩]
      · rw [up_i e, g1 t ht]
        by_cases e2 : t < 26
        · rw [if_pos e2, if_pos e2, if_neg (fun q => e q.2.symm), Int32.add_zero]
        · rw [if_neg e2, if_neg e2]
    · rw [if_pos (Classical.not_not.mp hl)]
      refine ⟨fun _ => ih (i + 1) n σ h (by omega) (by omega) x f1 (fun t ht => ?_), fun q => absurd rfl q⟩
      unfold nd
      rw [g1 t ht]
      by_cases e2 : t < 26
      · rw [if_pos e2, if_pos e2, if_neg (fun q => hl q.1), Int32.add_zero]
      · rw [if_neg e2, if_neg e2]
theorem LT29 : vp_in 26 29 ∧ vp_in 27 29 ∧ vp_in 28 29 ∧ ix 26 = 26 ∧ ix 27 = 27 ∧ ix 28 = 28 := ⟨vin (n := 26) (by decide) (by decide), vin (n := 27) (by decide) (by decide), vin (n := 28) (by decide) (by decide), rfl, rfl, rfl⟩
theorem s_ln134 {ng : Nat} (hng : ng ≤ 30) (W : Nat → Int32) (A B : Int32) (σ0 : Nat → Nat → Int32) (h11 : σ0 11 0 = nI ng) (hW : ∀ g, g < ng → σ0 15 g = W g) (hA : σ0 18 26 = A) (hB : σ0 18 27 = B)
    (hK : ∀ h1 σ1, MB h0 m σ1 h1 → (∀ f, f ≠ 17 → f ≠ 19 → f ≠ 20 → f ≠ 21 → σ1 f = σ0 f) → (∀ s, s < 26 → σ1 17 s = σ0 17 s) → σ1 17 26 = (fl W A B ng).1 → σ1 17 27 = (fl W A B ng).2.1 → σ1 17 28 = (fl W A B ng).2.2 → (∀ g, g < ng → σ1 19 g = f4 W A B g ∧ σ1 20 g = f2 W A B g ∧ σ1 21 g = f1 W A B g) → K h1) :
    ∀ (d i n : Nat) (σ : Nat → Nat → Int32) (h : Hp), i + d = ng → d < n → MB h0 m σ h → (∀ f, f ≠ 17 → f ≠ 19 → f ≠ 20 → f ≠ 21 → σ f = σ0 f) → (∀ s, s < 26 → σ 17 s = σ0 17 s) → σ 17 26 = (fl W A B i).1 → σ 17 27 = (fl W A B i).2.1 → σ 17 28 = (fl W A B i).2.2 → (∀ g, g < i → σ 19 g = f4 W A B g ∧ σ 20 g = f2 W A B g ∧ σ 21 g = f1 W A B g) → V_X7_layNeeds_134 K n m (nI i) h := by
  intro d
  induction d with
  | zero =>
    intro i n σ h h1 h2 x f1 g1 g2 g3 g4 g5
    obtain ⟨n, rfl⟩ : ∃ k, n = k + 1 := ⟨n - 1, by omega⟩
    obtain rfl : i = ng := by omega
    unfold V_X7_layNeeds_134
    simp only [x.s, true_and, f1 11 (by decide) (by decide) (by decide) (by decide), h11]
    rw [nle (by omega) (by omega)]
    exact ⟨fun _ => hK h σ x f1 g1 g2 g3 g4 g5, fun q => absurd (Nat.le_refl _) q⟩
  | succ d ih =>
    intro i n σ h h1 h2 x k1 g1 g2 g3 g4 g5
    obtain ⟨n, rfl⟩ : ∃ k, n = k + 1 := ⟨n - 1, by omega⟩
    unfold V_X7_layNeeds_134
    have ew : σ0 15 i = W i := hW i (by omega)
    simp only [x.s, true_and, k1 11 (by decide) (by decide) (by decide) (by decide), k1 15 (by decide) (by decide) (by decide) (by decide), k1 18 (by decide) (by decide) (by decide) (by decide), h11, LT29, ix_nI (show i < 2 ^ 31 by omega), show vp_in (nI i) 32 from vin (by omega) (by omega), nI_1, ew, hA, g2, s_least]
    rw [nle (by omega) (by omega)]
    refine ⟨fun q => absurd q (by omega), fun _ => ?_⟩
    rw [show (if A - (fl W A B i).1 ≤ W i / 4 then A - (fl W A B i).1 else W i / 4) = f4 W A B i from rfl]
    intro h2 e2
    have x2 := x.pa 19 rfl e2
    simp only [x2.s, true_and, LT29, show vp_in (nI i) 32 from vin (by omega) (by omega), up_s, up_f (show (17 : Nat) ≠ 19 by decide), g2]
    intro h3 e3
    have x3 := x2.pa 17 rfl e3
    have u3 : ∀ f y, f ≠ 17 → f ≠ 19 → up (up σ 19 i (f4 W A B i)) 17 26 ((fl W A B i).1 + f4 W A B i) f y = σ f y := fun f y a b => by rw [up_f a, up_f b]
    simp only [x3.s, true_and, LT29, show vp_in (nI i) 32 from vin (by omega) (by omega), u3 15 _ (by decide) (by decide), u3 18 _ (by decide) (by decide), k1 15 (by decide) (by decide) (by decide) (by decide), k1 18 (by decide) (by decide) (by decide) (by decide), ew, hB, up_f (show (19 : Nat) ≠ 17 by decide), up_s, up_i (show (27 : Nat) ≠ 26 by decide), up_f (show (17 : Nat) ≠ 19 by decide), g3, s_least]
    rw [show (if B - (fl W A B i).2.1 ≤ (W i - 4 * f4 W A B i) / 2 then B - (fl W A B i).2.1 else (W i - 4 * f4 W A B i) / 2) = f2 W A B i from rfl]
    intro h5 e5
    have x5 := x3.pa 20 rfl e5
    simp only [x5.s, true_and, LT29, show vp_in (nI i) 32 from vin (by omega) (by omega), up_s, up_f (show (17 : Nat) ≠ 20 by decide), up_i (show (27 : Nat) ≠ 26 by decide), up_f (show (17 : Nat) ≠ 19 by decide), g3]
    intro h6 e6
    have x6 := x5.pa 17 rfl e6
    simp only [x6.s, true_and, LT29, show vp_in (nI i) 32 from vin (by omega) (by omega), up_s, up_f (show (20 : Nat) ≠ 17 by decide)]
    rw [show W i - 4 * f4 W A B i - 2 * f2 W A B i = f1 W A B i from rfl]
    intro h7 e7
    have x7 := x6.pa 21 rfl e7
    simp only [x7.s, true_and, LT29, show vp_in (nI i) 32 from vin (by omega) (by omega), up_s, up_f (show (17 : Nat) ≠ 21 by decide), up_i (show (28 : Nat) ≠ 27 by decide), up_f (show (17 : Nat) ≠ 20 by decide), up_i (show (28 : Nat) ≠ 26 by decide), up_f (show (17 : Nat) ≠ 19 by decide), g4]
    intro h8 e8
    have x8 := x7.pa 17 rfl e8
    refine ih (i + 1) n _ h8 (by omega) (by omega) x8 (fun f a b c d => by rw [← k1 f a b c d]; funext y; rw [up_f a, up_f d, up_f a, up_f c, up_f a, up_f b]) (fun s hs => ?_) ?_ ?_ ?_ (fun g hg => ?_)
    · rw [up_i (by omega), up_f (by decide), up_i (by omega), up_f (by decide), up_i (by omega), up_f (by decide)]; exact g1 s hs
    · rw [up_i (by decide), up_f (by decide), up_i (by decide), up_f (by decide), up_s, fl_S]
    · rw [up_i (by decide), up_f (by decide), up_s, fl_S]
    · rw [up_s, fl_S]
    · rw [up_f (show (19 : Nat) ≠ 17 by decide), up_f (show (19 : Nat) ≠ 21 by decide), up_f (show (19 : Nat) ≠ 17 by decide), up_f (show (19 : Nat) ≠ 20 by decide), up_f (show (19 : Nat) ≠ 17 by decide),
        up_f (show (20 : Nat) ≠ 17 by decide), up_f (show (20 : Nat) ≠ 21 by decide), up_f (show (20 : Nat) ≠ 17 by decide), up_f (show (21 : Nat) ≠ 17 by decide)]
      by_cases e : g = i
      · subst e
        rw [up_s, up_s, up_s]
        exact ⟨rfl, rfl, rfl⟩
      · rw [up_i e, up_i e, up_i e, up_f (show (20 : Nat) ≠ 17 by decide), up_f (show (20 : Nat) ≠ 19 by decide), up_f (show (21 : Nat) ≠ 17 by decide), up_f (show (21 : Nat) ≠ 20 by decide), up_f (show (21 : Nat) ≠ 17 by decide), up_f (show (21 : Nat) ≠ 19 by decide)]
        exact g5 g (by omega)
theorem s_layNeeds {j nc len : Nat} (x : MB h0 m σ h) (hj : j < 12) (hn : σ 0 0 = nI nc) (hc6 : nc ≤ 6) (h6 : jb (σ 0) j 6 = nI len) (hF : FF (jtx (σ 0) j) len)
    (hK : ∀ h1 σ1, MB h0 m σ1 h1 → (∀ f, f ≤ 6 → σ1 f = σ f) → (∀ i, i < len → σ1 8 i = jtx (σ 0) j i) → LRel (jlay (σ 0) j len) σ1 → NRel (σ 0) nc j len σ1 → K h1) : V_X7_layNeeds m (nI j) h K := by
  unfold V_X7_layNeeds
  refine ⟨x.k, s_layJob x hj h6 hF (fun h1 σ1 x1 f1 f7 f8 hL => ?_)⟩
  have e0 := f1 0 (by decide)
  refine ⟨30, s_ln7 hj hc6 σ1 (by rw [e0]; exact hn) (fun h2 σ2 x2 k1 k2 => ?_) 29 0 30 σ1 h1 rfl (by decide) x1 (fun _ _ => rfl) (fun _ q => absurd q (Nat.not_lt_zero _))⟩
  rw [e0] at k2
  refine ⟨len + 1, s_ln88 (j := j) (nc := nc) (jtx (σ 0) j) hF.2.1 σ2 (by rw [k1 7 (by decide)]; exact f7) (fun i hi => by rw [k1 8 (by decide)]; exact f8 i hi) (fun s hs => (k2 s hs).1) (fun h3 σ3 x3 m1 m2 => ?_) len 0 (len + 1) σ2 h2 (by omega) (by omega) x2 (fun _ _ => rfl) (fun s hs => ?_)⟩
  · have hng : (jlay (σ 0) j len).1.2.2.1 ≤ 30 := (lay_bound (meas := jb (σ 0) j 1) hF).2
    have hL3 : LRel (jlay (σ 0) j len) σ3 := hL.same (fun f a b => (m1 f (by omega)).trans (k1 f (by omega)))
    refine ⟨(jlay (σ 0) j len).1.2.2.1 + 1, s_ln134 hng (jlay (σ 0) j len).2.2.2.2 (thr (σ 0) nc j 26) (thr (σ 0) nc j 27) σ3 hL3.2.2.1 hL3.2.2.2.2.2.2 (by rw [m1 18 (by decide)]; exact (k2 26 (by decide)).2) (by rw [m1 18 (by decide)]; exact (k2 27 (by decide)).2) (fun h4 σ4 x4 p1 p2 p3 p4 p5 p6 => ?_) (jlay (σ 0) j len).1.2.2.1 0 _ σ3 h3 (by omega) (by omega) x3 (fun _ _ _ _ _ => rfl) (fun _ _ => rfl) ?_ ?_ ?_ (fun _ q => absurd q (Nat.not_lt_zero _))⟩
    · refine hK h4 σ4 x4 (fun f hf => by rw [p1 f (by omega) (by omega) (by omega) (by omega), m1 f (by omega), k1 f (by omega), f1 f hf]) (fun i hi => ?_) (hL3.same (fun f a b => p1 f (by omega) (by omega) (by omega) (by omega))) ⟨fun s hs => ⟨?_, ?_⟩, fun g hg => p6 g hg⟩
      · rw [p1 8 (by decide) (by decide) (by decide) (by decide), m1 8 (by decide), k1 8 (by decide)]; exact f8 i hi
      · unfold ndF
        by_cases e : s < 26
        · rw [if_pos e, p2 s e, m2 s hs, if_pos e]
        · rw [if_neg e]
          by_cases e26 : s = 26
          · subst e26; exact p3
          · rw [if_neg e26]
            by_cases e27 : s = 27
            · subst e27; exact p4
            · rw [if_neg e27]
              obtain rfl : s = 28 := by omega
              exact p5
      · rw [p1 18 (by decide) (by decide) (by decide) (by decide), m1 18 (by decide)]; exact (k2 s hs).2
    · rw [m2 26 (by decide), if_neg (by decide)]; rfl
    · rw [m2 27 (by decide), if_neg (by decide)]; rfl
    · rw [m2 28 (by decide), if_neg (by decide)]; rfl
  · rw [(k2 s hs).1]
    split <;> rfl
end MNEEDS
