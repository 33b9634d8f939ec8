/-! the class: the draft's fault; a layout while it is made -/
section CFAULT
variable {h : Hp} {x : Nat} {σ : Nat → Nat → Int32} {k : Nat} {K : Int32 → Hp → Prop}
theorem k_findFault (C : CR h x σ k) {t : Nat} (ht : t ≤ 60) (h5 : σ 5 0 = nI t) (kk : K (fltR (flt (σ 6) t true 0) (-1)) h) : V_X0_findFault (hR h x 0) h K := by
  have kd : hK h (hR h x 0) = 1 := C.1.1.1 1 rfl
  have kt : hK h (hR h (hR h x 0) 0) = 21 := C.1.1.1 21 rfl
  have lt : hL h (hR h (hR h x 0) 0) = 60 := C.1.1.2 21 (by decide)
  have v1 : hI h (hR h x 0) 1 = nI t := C.2.1.1.trans h5
  have v2 := C.2.1.2.1
  have key : ∀ (d i n : Nat) (want : Bool), i + d = t → d < n → K (fltR (flt (σ 6) d want i) (-1)) h → V_X0_findFault_4 K n (hR h x 0) (b01 want) (nI i) h := by
    intro d
    induction d with
    | zero =>
      intro i n want h1 h2 hk
      obtain ⟨n, rfl⟩ : ∃ k, n = k + 1 := ⟨n - 1, by omega⟩
      obtain rfl : i = t := by omega
      unfold V_X0_findFault_4 V_X0_findFault_91 V_X0_findFault_103
      rw [v1, nle (by omega) (by omega)]
      refine ⟨kd, fun _ => ?_, fun q => absurd (Nat.le_refl _) q⟩
      cases want with
      | true => exact ⟨fun q => absurd q ne01, fun _ => ⟨kd, hk⟩⟩
      | false => exact ⟨fun _ => hk, fun q => absurd rfl q⟩
    | succ d ih =>
      intro i n want h1 h2 hk
      obtain ⟨n, rfl⟩ : ∃ k, n = k + 1 := ⟨n - 1, by omega⟩
      unfold V_X0_findFault_4 V_X0_findFault_53 V_X0_findFault_58 V_X0_findFault_73 V_X0_findFault_75 V_X0_findFault_84
      rw [k_isLetter, v1, kd, kt, lt, nle (by omega) (by omega), nle (by decide) (by omega), ix_nI (show i < 2 ^ 31 by omega), v2 i (by omega), nI_1]
      refine ⟨rfl, fun q => absurd q (by omega), fun _ => ⟨rfl, rfl, fun q => absurd q (by omega), fun _ => ⟨rfl, rfl, vin (by omega) (by decide), rfl, rfl, vin (by omega) (by decide), ?_⟩⟩⟩
      unfold flt at hk
      by_cases hl : isL (σ 6 i)
      · rw [if_pos hl] at hk
        rw [if_neg hl]
        have go := ih (i + 1) n false (by omega) (by omega) hk
        exact ⟨fun _ => ⟨fun _ => ⟨fun _ => go, fun q => absurd q ne01⟩, fun q => absurd q ne01⟩, fun _ => ⟨rfl, rfl, vin (by omega) (by decide), fun _ => ⟨fun _ => ⟨fun _ => go, fun q => absurd q ne01⟩, fun q => absurd q ne01⟩, fun _ => ⟨fun _ => ⟨fun _ => go, fun q => absurd q ne01⟩, fun q => absurd q ne01⟩⟩⟩
      · rw [if_neg hl] at hk
        rw [if_pos (Classical.not_not.mp hl)]
        cases want with
        | true =>
          rw [if_pos (Or.inl rfl)] at hk
          exact ⟨fun _ => ⟨fun q => absurd rfl q, fun _ => ⟨fun _ => hk, fun q => absurd q ne01⟩⟩, fun _ => ⟨rfl, rfl, vin (by omega) (by decide), fun _ => ⟨fun q => absurd rfl q, fun _ => ⟨fun _ => hk, fun q => absurd q ne01⟩⟩, fun _ => ⟨fun q => absurd rfl q, fun _ => ⟨fun _ => hk, fun q => absurd q ne01⟩⟩⟩⟩
        | false =>
          refine ⟨fun z => ?_, fun z => ⟨rfl, rfl, vin (by omega) (by decide), fun z2 => ?_, fun z2 => ?_⟩⟩
          · rw [if_neg (by simp [z])] at hk
            have go := ih (i + 1) n true (by omega) (by omega) hk
            exact ⟨fun q => absurd rfl q, fun _ => ⟨fun q => absurd rfl q, fun _ => ⟨fun _ => ⟨fun q => absurd rfl q, fun _ => go⟩, fun q => absurd q ne01⟩⟩⟩
          · rw [if_pos (Or.inr (fun q => q.elim z z2))] at hk
            exact ⟨fun q => absurd rfl q, fun _ => ⟨fun q => absurd rfl q, fun _ => ⟨fun q => absurd rfl q, fun _ => hk⟩⟩⟩
          · rw [if_neg (by simp [z2])] at hk
            have go := ih (i + 1) n true (by omega) (by omega) hk
            exact ⟨fun q => absurd rfl q, fun _ => ⟨fun q => absurd rfl q, fun _ => ⟨fun _ => ⟨fun q => absurd rfl q, fun _ => go⟩, fun q => absurd q ne01⟩⟩⟩
  exact ⟨t + 1, key t 0 (t + 1) true (by omega) (by omega) kk⟩
end CFAULT
/-- the cells of the layout y, by kind -/
def lc (h0 : Hp) (y k : Nat) : Nat := match k with
  | 3 => y
  | 25 => hR h0 y 0
  | 31 => hR h0 y 1
  | 32 => hR h0 y 2
  | 33 => hR h0 y 3
  | _ => hR h0 y 4
def lk6 (k : Nat) : Bool := k == 3 || k == 25 || k == 31 || k == 32 || k == 33 || k == 34
def ll6 (k : Nat) : Nat := if k = 25 then 60 else if k = 31 then 26 else 30
/-- the layout y holds φ; since h0 only its ints have changed -/
def LB (h0 : Hp) (y : Nat) (φ : Nat → Nat → Int32) (h : Hp) : Prop :=
  ((∀ k, lk6 k = true → hK h0 (lc h0 y k) = k) ∧ ∀ k, lk6 k = true → k ≠ 3 → hL h0 (lc h0 y k) = ll6 k) ∧ (∀ k, lk6 k = true → ∀ i, hI h (lc h0 y k) i = φ k i) ∧
  (∀ c, hK h c = hK h0 c) ∧ (∀ c, hL h c = hL h0 c) ∧ (∀ c i, hR h c i = hR h0 c i) ∧ ∀ c, (∀ k, lk6 k = true → c ≠ lc h0 y k) → ∀ i, hI h c i = hI h0 c i
section LBs
variable {h0 h : Hp} {y : Nat} {φ : Nat → Nat → Int32}
theorem LB.put (b : LB h0 y φ h) (k : Nat) (hk : lk6 k = true) {i : Nat} {v : Int32} {h1 : Hp} (e : h1 = sI h (lc h0 y k) i v) : LB h0 y (up φ k i v) h1 := by
  subst e
  refine ⟨b.1, fun l hl j => ?_, b.2.2.1, b.2.2.2.1, b.2.2.2.2.1, fun c hc j => ?_⟩
  · rw [hI_sI, b.2.1 l hl]
    by_cases e : l = k
    · subst e; simp only [up, true_and]
    · have : ¬ lc h0 y l = lc h0 y k := fun z => e (by rw [← b.1.1 l hl, z, b.1.1 k hk])
      rw [if_neg (fun z => this z.1), up_f e]
  · rw [hI_sI, if_neg (fun z => hc k hk z.1)]
    exact b.2.2.2.2.2 c hc j
theorem LB.K (b : LB h0 y φ h) (k : Nat) (hk : lk6 k = true) : hK h (lc h0 y k) = k := (b.2.2.1 _).trans (b.1.1 k hk)
theorem LB.L (b : LB h0 y φ h) (k : Nat) (hk : lk6 k = true) (h3 : k ≠ 3) : hL h (lc h0 y k) = ll6 k := (b.2.2.2.1 _).trans (b.1.2 k hk h3)
/-- all at once, for simp -/
theorem LB.s (b : LB h0 y φ h) : (∀ c f, hR h c f = hR h0 c f) ∧
    (hK h y = 3 ∧ hK h (hR h0 y 0) = 25 ∧ hK h (hR h0 y 1) = 31 ∧ hK h (hR h0 y 2) = 32 ∧ hK h (hR h0 y 3) = 33 ∧ hK h (hR h0 y 4) = 34) ∧
    (hL h (hR h0 y 0) = 60 ∧ hL h (hR h0 y 1) = 26 ∧ hL h (hR h0 y 2) = 30 ∧ hL h (hR h0 y 3) = 30 ∧ hL h (hR h0 y 4) = 30) ∧
    ((∀ i, hI h y i = φ 3 i) ∧ (∀ i, hI h (hR h0 y 0) i = φ 25 i) ∧ (∀ i, hI h (hR h0 y 1) i = φ 31 i) ∧ (∀ i, hI h (hR h0 y 2) i = φ 32 i) ∧ (∀ i, hI h (hR h0 y 3) i = φ 33 i) ∧ (∀ i, hI h (hR h0 y 4) i = φ 34 i)) :=
  ⟨b.2.2.2.2.1, ⟨b.K 3 rfl, b.K 25 rfl, b.K 31 rfl, b.K 32 rfl, b.K 33 rfl, b.K 34 rfl⟩, ⟨b.L 25 rfl (by decide), b.L 31 rfl (by decide), b.L 32 rfl (by decide), b.L 33 rfl (by decide), b.L 34 rfl (by decide)⟩,
    ⟨b.2.1 3 rfl, b.2.1 25 rfl, b.2.1 31 rfl, b.2.1 32 rfl, b.2.1 33 rfl, b.2.1 34 rfl⟩⟩
theorem k_addGaps {K : Hp → Prop} (b : LB h0 y φ h) (rest : Int32) {g ng : Nat} (hg : 0 < g) (hb : ng + g ≤ 30) (h7 : φ 3 7 = nI ng)
    (kk : ∀ h1 φ1, LB h0 y φ1 h1 → (∀ k, k ≠ 3 → k ≠ 34 → φ1 k = φ k) → (∀ i, i ≠ 7 → φ1 3 i = φ 3 i) → φ1 3 7 = nI (ng + g) → (∀ p, p < ng + g → φ1 34 p = if ng ≤ p then gw rest g (p - ng) else φ 34 p) → K h1) : V_X2_addGaps y rest (nI g) h K := by
  have key : ∀ (d i n : Nat) (φ1 : Nat → Nat → Int32) (h1 : Hp), i + d = g → d < n → LB h0 y φ1 h1 → (∀ k, k ≠ 3 → k ≠ 34 → φ1 k = φ k) → (∀ i, i ≠ 7 → φ1 3 i = φ 3 i) → φ1 3 7 = nI (ng + i) → (∀ p, p < ng + i → φ1 34 p = if ng ≤ p then gw rest g (p - ng) else φ 34 p) → V_X2_addGaps_8 K n y rest (nI g) (nI i) h1 := by
    intro d
    induction d with
    | zero =>
      intro i n φ1 h1 p1 p2 b1 f1 f2 f3 f4
      obtain ⟨n, rfl⟩ : ∃ k, n = k + 1 := ⟨n - 1, by omega⟩
      obtain rfl : i = g := by omega
      unfold V_X2_addGaps_8 V_X2_addGaps_66
      rw [nle (by omega) (by omega)]
      exact ⟨fun _ => kk h1 φ1 b1 f1 f2 f3 f4, fun q => absurd (Nat.le_refl _) q⟩
    | succ d ih =>
      intro i n φ1 h1 p1 p2 b1 f1 f2 f3 f4
      obtain ⟨n, rfl⟩ : ∃ k, n = k + 1 := ⟨n - 1, by omega⟩
      have go : ∀ v : Int32, v = (if rest - rest / nI g * nI g ≤ nI i then 0 else 1) → V_X2_addGaps_48 K (V_X2_addGaps_8 K n) y rest (nI g) (nI i) (hR h0 y 4) (nI (ng + i)) (rest / nI g) v h1 := by
        intro v hv
        unfold V_X2_addGaps_48
        simp only [b1.s, ix_nI (show ng + i < 2 ^ 31 by omega), show vp_in (nI (ng + i)) 30 from vin (by omega) (by omega), true_and, nI_1]
        intro h2 e2
        have b2 := b1.put 34 rfl e2
        simp only [b2.s, true_and]
        intro h3 e3
        have b3 := b2.put 3 rfl e3
        refine ih (i + 1) n _ h3 (by omega) (by omega) b3 (fun k a c => by rw [← f1 k a c]; funext z; rw [up_f a, up_f c]) (fun z hz => by rw [up_i hz, up_f (by decide)]; exact f2 z hz) ?_ (fun p hp => ?_)
        · rw [up_s, up_f (by decide), f3, nI_1]; rfl
        · rw [up_f (by decide)]
          by_cases e : p = ng + i
          · subst e
            rw [up_s, if_pos (by omega), show ng + i - ng = i by omega, hv]
            rfl
          · rw [up_i e]; exact f4 p (by omega)
      unfold V_X2_addGaps_8
      rw [nle (by omega) (by omega), q0 (by omega)]
      simp only [b1.s, f3, true_and]
      rw [nle (by decide) (by omega)]
      exact ⟨fun q => absurd q (by omega), fun _ => ⟨fun q => absurd q (by omega), fun _ => ⟨by omega, by omega, fun q => go 0 (by rw [if_pos q]), fun q => go 1 (by rw [if_neg q])⟩⟩⟩
  unfold V_X2_addGaps
  rw [c1 (by omega)]
  refine ⟨fun _ => ⟨g + 1, key g 0 (g + 1) φ h (by omega) (by omega) b (fun _ _ _ => rfl) (fun _ _ => rfl) h7 (fun p hp => ?_)⟩, fun z => absurd (by omega) z⟩
  rw [if_neg (by omega)]
end LBs
