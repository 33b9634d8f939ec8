/-! the reference lays a text -/
def LRel (L : LySt) (σ : Nat → Nat → Int32) : Prop :=
  σ 9 0 = nI L.1.1 ∧ σ 10 0 = nI L.1.2.1 ∧ σ 11 0 = nI L.1.2.2.1 ∧ σ 16 0 = b01 L.1.2.2.2 ∧ (∀ l, l < L.1.1 → σ 12 l = nI (L.2.1 l) ∧ σ 13 l = nI (L.2.2.1 l)) ∧ (∀ l, l ≤ L.1.1 → 0 < L.1.1 → σ 14 l = nI (L.2.2.2.1 l)) ∧ ∀ k, k < L.1.2.2.1 → σ 15 k = L.2.2.2.2 k
section MLAY
variable {h0 h : Hp} {m : Nat} {σ : Nat → Nat → Int32} {K : Hp → Prop}
theorem s_ll145 (rest : Int32) {nl ng g : Nat} (hg : 0 < g) (hb : ng + g ≤ 31) (hl : nl ≤ 30) (σ0 : Nat → Nat → Int32) (h9 : σ0 9 0 = nI nl)
    (hK : ∀ h1 σ1, MB h0 m σ1 h1 → (∀ f, f ≠ 9 → f ≠ 11 → f ≠ 14 → f ≠ 15 → σ1 f = σ0 f) → σ1 9 0 = nI (nl + 1) → σ1 11 0 = nI (ng + g) → (∀ l, σ1 14 l = if l = nl + 1 then nI (ng + g) else σ0 14 l) → (∀ k, k < ng + g → σ1 15 k = if ng ≤ k then gw rest g (k - ng) else σ0 15 k) → K h1) :
    ∀ (d k n : Nat) (σ : Nat → Nat → Int32) (h : Hp), k + d = g → d < n → MB h0 m σ h → (∀ f, f ≠ 11 → f ≠ 15 → σ f = σ0 f) → σ 11 0 = nI (ng + k) → (∀ p, p < ng + k → σ 15 p = if ng ≤ p then gw rest g (p - ng) else σ0 15 p) → V_X7_layLine_145 K n m rest (nI g) (nI k) h := by
  intro d
  induction d with
  | zero =>
    intro k n σ h h1 h2 x f1 g1 g2
    obtain ⟨n, rfl⟩ : ∃ k, n = k + 1 := ⟨n - 1, by omega⟩
    obtain rfl : k = g := by omega
    unfold V_X7_layLine_145
    rw [nle (by omega) (by omega)]
    refine ⟨fun _ => ?_, fun q => absurd (Nat.le_refl _) q⟩
    simp only [x.s, true_and]
    intro h1 e1
    have x1 := x.ps 9 rfl e1
    simp only [x1.s, true_and, up_s]
    rw [f1 9 (by decide) (by decide), h9, nI_1]
    simp only [ix_nI (show nl + 1 < 2 ^ 31 by omega), show vp_in (nI (nl + 1)) 32 from vin (by omega) (by omega), true_and]
    intro h2 e2
    have x2 := x1.pa 14 rfl e2
    refine hK h2 _ x2 (fun f a b c d => by funext y; rw [up_f c, up_f a, f1 f b d]) ?_ ?_ (fun l => ?_) (fun p hp => ?_)
    · rw [up_f (by decide), up_s, f1 9 (by decide) (by decide), h9, nI_1]
    · rw [up_f (by decide), up_f (by decide)]; exact g1
    · simp only [up_e, true_and, show ¬ (14 : Nat) = 9 by decide, show ¬ (11 : Nat) = 9 by decide, false_and, if_false]
      rw [g1, f1 14 (by decide) (by decide)]
    · rw [up_f (by decide), up_f (by decide)]; exact g2 p hp
  | succ d ih =>
    intro k n σ h h1 h2 x f1 g1 g2
    obtain ⟨n, rfl⟩ : ∃ k, n = k + 1 := ⟨n - 1, by omega⟩
    unfold V_X7_layLine_145
    rw [nle (by omega) (by omega), q0 (by omega)]
    refine ⟨fun q => absurd q (by omega), fun _ => ?_⟩
    simp only [x.s, true_and, show ¬ g = 0 by omega, not_false_eq_true]
    have go : ∀ v : Int32, v = (if rest - rest / nI g * nI g ≤ nI k then 0 else 1) → V_X7_layLine_180 K (V_X7_layLine_145 K n) m rest (nI g) (nI k) (hR h0 m 15) (σ 11 0) (rest / nI g) v h := by
      intro v hv
      unfold V_X7_layLine_180
      simp only [x.s, true_and]
      rw [g1]
      simp only [ix_nI (show ng + k < 2 ^ 31 by omega), show vp_in (nI (ng + k)) 32 from vin (by omega) (by omega), true_and]
      intro h1 e1
      have x1 := x.pa 15 rfl e1
      simp only [x1.s, true_and]
      intro h2 e2
      have x2 := x1.ps 11 rfl e2
      rw [nI_1]
      refine ih (k + 1) n _ h2 (by omega) (by omega) x2 (fun f a b => by funext y; rw [up_f a, up_f b, f1 f a b]) ?_ (fun p hp => ?_)
      · rw [up_s, up_f (by decide), g1, nI_1]; rfl
      · rw [up_f (by decide)]
        by_cases e : p = ng + k
        · subst e
          rw [up_s, if_pos (by omega), show ng + k - ng = k by omega, hv]
          rfl
        · rw [up_i e]
          exact g2 p (by omega)
    exact ⟨fun q => go 0 (by rw [if_pos q]), fun q => go 1 (by rw [if_neg q])⟩
theorem s_ll107 {meas : Int32} {tx : Nat → Int32} {a b : Nat} {L : LySt} (σ0 : Nat → Nat → Int32) (hL : LRel L σ0) (ha : a ≤ 60) (hb : b ≤ 60) (hl : L.1.1 ≤ 30) (hg : L.1.2.2.1 + gc (cB tx a (b - a)) ≤ 31)
    (hFG : 0 < L.1.1 → L.2.2.2.1 L.1.1 = L.1.2.2.1)
    (hK : ∀ h1 σ1, MB h0 m σ1 h1 → (∀ f, f ≤ 8 → σ1 f = σ0 f) → LRel (lyL tx meas a b L) σ1 → K h1) (σ : Nat → Nat → Int32) (h : Hp) (x : MB h0 m σ h) (f1 : ∀ f, f ≠ 10 → f ≠ 16 → σ f = σ0 f) (e10 : σ 10 0 = nI (L.1.2.1 + cL tx a (b - a)))
    (e16 : σ 16 0 = b01 (L.1.2.2.2 || decide (meas - sW tx a (b - a) < nI (cB tx a (b - a))))) : V_X7_layLine_107 K m (nI a) (nI b) (meas - sW tx a (b - a)) (nI (gc (cB tx a (b - a)))) h := by
  obtain ⟨l9, l10, l11, l16, l12, l14, l15⟩ := hL
  unfold V_X7_layLine_107
  simp only [x.s, true_and, f1 9 (by decide) (by decide), l9, ix_nI (show L.1.1 < 2 ^ 31 by omega), show vp_in (nI L.1.1) 31 from vin (by omega) (by omega)]
  intro h1 e1
  have x1 := x.pa 12 rfl e1
  simp only [x1.s, true_and, up_f (show (9 : Nat) ≠ 12 by decide), f1 9 (by decide) (by decide), l9, ix_nI (show L.1.1 < 2 ^ 31 by omega), show vp_in (nI L.1.1) 31 from vin (by omega) (by omega)]
  intro h2 e2
  have x2 := x1.pa 13 rfl e2
  simp only [x2.s, true_and, up_f (show (9 : Nat) ≠ 12 by decide), up_f (show (9 : Nat) ≠ 13 by decide), up_f (show (11 : Nat) ≠ 12 by decide), up_f (show (11 : Nat) ≠ 13 by decide), f1 9 (by decide) (by decide), f1 11 (by decide) (by decide), l9, l11, ix_nI (show L.1.1 < 2 ^ 31 by omega), show vp_in (nI L.1.1) 32 from vin (by omega) (by omega)]
  intro h3 e3
  have x3 := x2.pa 14 rfl e3
  have hg0 : 0 < gc (cB tx a (b - a)) := by unfold gc; split <;> omega
  refine ⟨gc (cB tx a (b - a)) + 1, s_ll145 (K := K) (m := m) (h0 := h0) (meas - sW tx a (b - a)) (nl := L.1.1) (ng := L.1.2.2.1) hg0 hg hl _ ?_ (fun h4 σ4 x4 k1 k2 k3 k4 k5 => ?_) (gc (cB tx a (b - a))) 0 _ _ h3 (by omega) (by omega) x3 (fun _ _ _ => rfl) ?_ (fun p hp => ?_)⟩
  · rw [up_f (by decide), up_f (by decide), up_f (by decide), f1 9 (by decide) (by decide), l9]
  · have hup : ∀ f y, f ≠ 9 → f ≠ 11 → f ≠ 12 → f ≠ 13 → f ≠ 14 → f ≠ 15 → σ4 f y = σ f y := fun f y a b c d e g => by
      rw [k1 f a b e g, up_f e, up_f d, up_f c]
    refine hK h4 σ4 x4 (fun f hf => by funext y; rw [hup f y (by omega) (by omega) (by omega) (by omega) (by omega) (by omega), f1 f (by omega) (by omega)]) ⟨k2, ?_, k3, ?_, fun l hl => ?_, fun l hl _ => ?_, fun p hp => ?_⟩
    · rw [hup 10 0 (by decide) (by decide) (by decide) (by decide) (by decide) (by decide)]; exact e10
    · rw [hup 16 0 (by decide) (by decide) (by decide) (by decide) (by decide) (by decide)]; exact e16
    · have hl' : l < L.1.1 + 1 := hl
      rw [k1 12 (by decide) (by decide) (by decide) (by decide), k1 13 (by decide) (by decide) (by decide) (by decide), up_f (show (12 : Nat) ≠ 14 by decide), up_f (show (12 : Nat) ≠ 13 by decide), up_f (show (13 : Nat) ≠ 14 by decide)]
      show _ = nI (if l = L.1.1 then a else L.2.1 l) ∧ _ = nI (if l = L.1.1 then b else L.2.2.1 l)
      by_cases e : l = L.1.1
      · subst e
        rw [up_s, up_s, if_pos rfl, if_pos rfl]
        exact ⟨rfl, rfl⟩
      · rw [up_i e, up_i e, up_f (by decide), f1 12 (by decide) (by decide), f1 13 (by decide) (by decide), if_neg e, if_neg e]
        exact l12 l (by omega)
    · have hl' : l ≤ L.1.1 + 1 := hl
      rw [k4]
      show _ = nI (if l = L.1.1 + 1 then L.1.2.2.1 + gc (cB tx a (b - a)) else if l = L.1.1 then L.1.2.2.1 else L.2.2.2.1 l)
      by_cases e : l = L.1.1 + 1
      · rw [if_pos e, if_pos e]
      · rw [if_neg e, if_neg e]
        by_cases e2 : l = L.1.1
        · subst e2
          rw [up_s, if_pos rfl]
        · rw [up_i e2, up_f (by decide), up_f (by decide), f1 14 (by decide) (by decide), if_neg e2]
          exact l14 l (by omega) (by omega)
    · have hp' : p < L.1.2.2.1 + gc (cB tx a (b - a)) := hp
      rw [k5 p hp']
      show _ = if L.1.2.2.1 ≤ p ∧ p < L.1.2.2.1 + gc (cB tx a (b - a)) then gw (meas - sW tx a (b - a)) (gc (cB tx a (b - a))) (p - L.1.2.2.1) else L.2.2.2.2 p
      by_cases e : L.1.2.2.1 ≤ p
      · rw [if_pos e, if_pos ⟨e, hp'⟩]
      · rw [if_neg e, if_neg (by omega), up_f (by decide), up_f (by decide), up_f (by decide), f1 15 (by decide) (by decide)]
        exact l15 p (by omega)
  · rw [up_f (by decide), up_f (by decide), up_f (by decide), f1 11 (by decide) (by decide), l11]; rfl
  · rw [if_neg (by omega)]
theorem s_ll9 {meas : Int32} {tx : Nat → Int32} {a b : Nat} {L : LySt} (σ0 : Nat → Nat → Int32) (hL : LRel L σ0) (hab : a ≤ b) (hb : b ≤ 60) (htx : ∀ i, a ≤ i → i < b → σ0 8 i = tx i) (hl : L.1.1 ≤ 30) (hg : L.1.2.2.1 + gc (cB tx a (b - a)) ≤ 31)
    (hFG : 0 < L.1.1 → L.2.2.2.1 L.1.1 = L.1.2.2.1)
    (hK : ∀ h1 σ1, MB h0 m σ1 h1 → (∀ f, f ≤ 8 → σ1 f = σ0 f) → LRel (lyL tx meas a b L) σ1 → K h1) :
    ∀ (d k n : Nat) (σ : Nat → Nat → Int32) (h : Hp), k + d = b - a → d < n → MB h0 m σ h → (∀ f, f ≠ 10 → σ f = σ0 f) → σ 10 0 = nI (L.1.2.1 + cL tx a k) → V_X7_layLine_9 K n m (nI a) (nI b) (nI (1 + cB tx a k)) (meas - sW tx a k) (nI (a + k)) h := by
  intro d
  induction d with
  | zero =>
    intro k n σ h h1 h2 x f1 g1
    obtain ⟨n, rfl⟩ : ∃ k, n = k + 1 := ⟨n - 1, by omega⟩
    obtain rfl : k = b - a := by omega
    have hcb := cB_le tx a (b - a)
    unfold V_X7_layLine_9 V_X7_layLine_85 V_X7_layLine_90
    rw [nle (by omega) (by omega)]
    refine ⟨fun _ => ?_, fun q => absurd (by omega) q⟩
    simp only [x.s, true_and, f1 16 (by decide), hL.2.2.2.1]
    rw [c1v (by omega)]
    rw [show nI (1 + cB tx a (b - a)) - 1 = nI (cB tx a (b - a)) from by rw [Nat.add_comm]; exact nI_pred _]
    have go : ∀ v : Int32, v = b01 (L.1.2.2.2 || decide (meas - sW tx a (b - a) < nI (cB tx a (b - a)))) → (v = 0 ∨ v = 1) ∧ ∀ h1, h1 = sI h m 16 v → (1 + cB tx a (b - a) ≤ 1 → V_X7_layLine_107 K m (nI a) (nI b) (meas - sW tx a (b - a)) 1 h1) ∧ (¬ 1 + cB tx a (b - a) ≤ 1 → V_X7_layLine_107 K m (nI a) (nI b) (meas - sW tx a (b - a)) (nI (cB tx a (b - a))) h1) := by
      intro v hv
      refine ⟨?_, fun h1 e1 => ?_⟩
      · rw [hv]; unfold b01; split
        · exact Or.inr rfl
        · exact Or.inl rfl
      · have x1 := x.ps 16 rfl e1
        have fin := s_ll107 (K := K) (m := m) (h0 := h0) (meas := meas) (tx := tx) (a := a) (b := b) σ0 hL (by omega) hb hl hg hFG hK _ h1 x1 (fun f p q => by funext y; rw [up_f q, f1 f p]) (by rw [up_f (by decide)]; exact g1) (by rw [up_s]; exact hv)
        refine ⟨fun q => ?_, fun q => ?_⟩
        · rw [show gc (cB tx a (b - a)) = 1 from if_pos (by omega)] at fin; exact fin
        · rw [show gc (cB tx a (b - a)) = cB tx a (b - a) from if_neg (by omega)] at fin; exact fin
    refine ⟨fun q => ?_, fun q => ⟨fun z => ?_, fun z => ?_⟩⟩
    · refine ⟨Or.inr trivial, (go 1 ?_).2⟩
      cases e : L.1.2.2.2 with
      | true => rfl
      | false => rw [e] at q; exact absurd rfl q
    · refine ⟨Or.inl trivial, (go 0 ?_).2⟩
      cases e : L.1.2.2.2 with
      | true => rw [e] at q; exact absurd q (by decide)
      | false => rw [Bool.false_or, decide_eq_false (Int32.not_lt.mpr z)]; rfl
    · refine ⟨Or.inr trivial, (go 1 ?_).2⟩
      rw [decide_eq_true (Int32.not_le.mp z), Bool.or_true]; rfl
  | succ d ih =>
    intro k n σ h h1 h2 x f1 g1
    obtain ⟨n, rfl⟩ : ∃ k, n = k + 1 := ⟨n - 1, by omega⟩
    unfold V_X7_layLine_9 V_X7_layLine_62
    rw [nle (by omega) (by omega)]
    refine ⟨fun q => absurd q (by omega), fun _ => ?_⟩
    have et : σ 8 (a + k) = tx (a + k) := by rw [f1 8 (by decide)]; exact htx _ (by omega) (by omega)
    simp only [x.s, true_and, ix_nI (show a + k < 2 ^ 31 by omega), show vp_in (nI (a + k)) 60 from vin (by omega) (by omega), s_isLetter, nI_1, et]
    by_cases hl2 : isL (tx (a + k))
    · rw [if_neg hl2]
      refine ⟨fun q => absurd q ne01, fun _ => ?_⟩
      obtain ⟨s, s1, s2, s3⟩ := isL_of hl2
      rw [s2, s_width (by omega)]
      simp only [x.s, true_and]
      intro h1 e1
      have x1 := x.ps 10 rfl e1
      have e2 : wd s = lw (tx (a + k)) := by unfold lw; rw [s2, ix_nI (by omega)]
      have := ih (k + 1) n _ h1 (by omega) (by omega) x1 (fun f hf => by rw [← f1 f hf]; funext y; exact up_f hf) (by
        rw [up_s, g1, nI_1]
        show _ = nI (L.1.2.1 + (cL tx a k + (if isL (tx (a + k)) then 1 else 0)))
        rw [if_pos hl2]; rfl)
      have e3 : cB tx a (k + 1) = cB tx a k := by
        show cB tx a k + (if isL (tx (a + k)) then 0 else 1) = _
        rw [if_pos hl2]; rfl
      have e4 : sW tx a (k + 1) = sW tx a k + lw (tx (a + k)) := by
        show sW tx a k + (if isL (tx (a + k)) then lw (tx (a + k)) else 0) = _
        rw [if_pos hl2]
      rw [e3, e4, ← i_sub_add, ← e2] at this
      exact this
    · rw [if_pos (Classical.not_not.mp hl2)]
      refine ⟨fun _ => ?_, fun q => absurd rfl q⟩
      have e3 : cB tx a (k + 1) = cB tx a k + 1 := by
        show cB tx a k + (if isL (tx (a + k)) then 0 else 1) = _
        rw [if_neg hl2]
      have e4 : sW tx a (k + 1) = sW tx a k := by
        show sW tx a k + (if isL (tx (a + k)) then lw (tx (a + k)) else 0) = _
        rw [if_neg hl2, Int32.add_zero]
      have := ih (k + 1) n σ h (by omega) (by omega) x f1 (by
        rw [g1]
        show _ = nI (L.1.2.1 + (cL tx a k + (if isL (tx (a + k)) then 1 else 0)))
        rw [if_neg hl2]; rfl)
      rw [e3, e4] at this
      exact this
theorem s_layLine {meas : Int32} {tx : Nat → Int32} {a b : Nat} {L : LySt} (x : MB h0 m σ h) (hL : LRel L σ) (hab : a ≤ b) (hb : b ≤ 60) (htx : ∀ i, a ≤ i → i < b → σ 8 i = tx i) (hl : L.1.1 ≤ 30) (hg : L.1.2.2.1 + gc (cB tx a (b - a)) ≤ 31)
    (hFG : 0 < L.1.1 → L.2.2.2.1 L.1.1 = L.1.2.2.1)
    (hK : ∀ h1 σ1, MB h0 m σ1 h1 → (∀ f, f ≤ 8 → σ1 f = σ f) → LRel (lyL tx meas a b L) σ1 → K h1) : V_X7_layLine m (nI a) (nI b) meas h K := by
  have := s_ll9 (K := K) σ hL hab hb htx hl hg hFG hK (b - a) 0 (b - a + 1) σ h (by omega) (by omega) x (fun _ _ => rfl) hL.2.1
  rw [show sW tx a 0 = 0 from rfl, Int32.sub_zero] at this
  exact ⟨b - a + 1, this⟩
end MLAY
