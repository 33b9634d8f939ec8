/-! the reference's history -/
def rk (k : Nat) : Nat := if k = 5 then 5 else k + 1
/-- σ' is σ with the row recorded (k states were kept) -/
def Rec (σ : Nat → Nat → Int32) (k : Nat) (σ' : Nat → Nat → Int32) : Prop :=
  (∀ f, f ≠ 1 → f ≠ 2 → σ' f = σ f) ∧ σ' 2 0 = nI (rk k) ∧ ∀ i, i < rk k → ∀ x, x < 3475 → σ' 1 (3475 * i + x) = if i + 1 = rk k then σ 0 x else σ 1 (3475 * (i + if k = 5 then 1 else 0) + x)
section MREC
variable {h0 : Hp} {m : Nat} {K : Hp → Prop}
theorem s_rec51 (k : Nat) (hk : k < 5) : ∀ (d i n : Nat) (σ : Nat → Nat → Int32) (h : Hp), i + d = 3475 → d < n → MB h0 m σ h → σ 2 0 = nI k →
    (∀ h' σ', MB h0 m σ' h' → (∀ f, f ≠ 1 → f ≠ 2 → σ' f = σ f) → σ' 2 0 = nI (k + 1) → (∀ p, (p < 3475 * k + i ∨ 3475 * k + 3475 ≤ p) → σ' 1 p = σ 1 p) → (∀ x, i ≤ x → x < 3475 → σ' 1 (3475 * k + x) = σ 0 x) → K h') → V_X7_record_51 K n m (nI i) h := by
  intro d
  induction d with
  | zero =>
    intro i n σ h h1 h2 x hk2 hK
    obtain ⟨n, rfl⟩ : ∃ k, n = k + 1 := ⟨n - 1, by omega⟩
    unfold V_X7_record_51
    rw [c3475 (by omega)]
    refine ⟨fun _ => ?_, fun q => absurd (by omega) q⟩
    simp only [x.s, true_and]
    intro h1 e
    refine hK h1 _ (x.ps 2 rfl e) (fun f _ h2 => by funext j; exact up_f h2) ?_ (fun p _ => up_f (by decide)) (fun y q1 q2 => by omega)
    rw [up_s, hk2, nI_1]
  | succ d ih =>
    intro i n σ h h1 h2 x hk2 hK
    obtain ⟨n, rfl⟩ : ∃ k, n = k + 1 := ⟨n - 1, by omega⟩
    unfold V_X7_record_51
    rw [c3475 (by omega)]
    refine ⟨fun q => absurd q (by omega), fun _ => ?_⟩
    simp only [x.s, true_and, hk2, e3475, ix_nI (show i < 2 ^ 31 by omega), ix_nI (show 3475 * k + i < 2 ^ 31 by omega), show vp_in (nI i) 3475 from vin (by omega) (by omega), show vp_in (nI (3475 * k + i)) 17375 from vin (by omega) (by omega), nI_1]
    intro h1 e
    refine ih (i + 1) n _ h1 (by omega) (by omega) (x.pa 1 rfl e) (by rw [up_f (by decide)]; exact hk2) ?_
    intro h' σ' x' g1 g2 g3 g4
    refine hK h' σ' x' (fun f f1 f2 => by rw [g1 f f1 f2]; funext j; exact up_f f1) g2 (fun p hp => ?_) (fun y y1 y2 => ?_)
    · rw [g3 p (by omega), up_i (by omega)]
    · by_cases hy : y = i
      · subst hy
        rw [g3 _ (by omega), up_s]
      · rw [g4 y (by omega) y2, up_f (by decide)]
theorem s_rec10 : ∀ (d i n : Nat) (σ : Nat → Nat → Int32) (h : Hp), i + d = 13900 → d < n → MB h0 m σ h → σ 2 0 = nI 5 →
    (∀ h' σ', MB h0 m σ' h' → (∀ f, f ≠ 1 → f ≠ 2 → σ' f = σ f) → σ' 2 0 = nI 4 → (∀ p, i ≤ p → p < 13900 → σ' 1 p = σ 1 (p + 3475)) → (∀ p, p < i → σ' 1 p = σ 1 p) → V_X7_record_49 K m h') → V_X7_record_10 K n m (nI i) h := by
  intro d
  induction d with
  | zero =>
    intro i n σ h h1 h2 x hk2 hK
    obtain ⟨n, rfl⟩ : ∃ k, n = k + 1 := ⟨n - 1, by omega⟩
    unfold V_X7_record_10
    rw [c13900 (by omega)]
    refine ⟨fun _ => ?_, fun q => absurd (by omega) q⟩
    simp only [x.s, true_and]
    intro h1 e
    refine hK h1 _ (x.ps 2 rfl e) (fun f _ h2 => by funext j; exact up_f h2) ?_ (fun p q1 q2 => by omega) (fun p _ => up_f (by decide))
    rw [up_s, hk2]; rfl
  | succ d ih =>
    intro i n σ h h1 h2 x hk2 hK
    obtain ⟨n, rfl⟩ : ∃ k, n = k + 1 := ⟨n - 1, by omega⟩
    unfold V_X7_record_10
    rw [c13900 (by omega), show nI i + 3475 = nI (i + 3475) from nI_add i 3475]
    refine ⟨fun q => absurd q (by omega), fun _ => ?_⟩
    simp only [x.s, true_and, hk2, ix_nI (show i < 2 ^ 31 by omega), ix_nI (show i + 3475 < 2 ^ 31 by omega), show vp_in (nI i) 17375 from vin (by omega) (by omega), show vp_in (nI (i + 3475)) 17375 from vin (by omega) (by omega), nI_1]
    intro h1 e
    refine ih (i + 1) n _ h1 (by omega) (by omega) (x.pa 1 rfl e) (by rw [up_f (by decide)]; exact hk2) ?_
    intro h' σ' x' g1 g2 g3 g4
    refine hK h' σ' x' (fun f f1 f2 => by rw [g1 f f1 f2]; funext j; exact up_f f1) g2 (fun p p1 p2 => ?_) (fun p hp => ?_)
    · by_cases hy : p = i
      · subst hy
        rw [g4 _ (by omega), up_s]
      · rw [g3 p (by omega) p2, up_i (by omega)]
    · rw [g4 p (by omega), up_i (by omega)]
theorem s_record {σ : Nat → Nat → Int32} {h : Hp} {k : Nat} (x : MB h0 m σ h) (hk : k ≤ 5) (hk2 : σ 2 0 = nI k) (hK : ∀ h' σ', MB h0 m σ' h' → Rec σ k σ' → K h') : V_X7_record m h K := by
  unfold V_X7_record
  simp only [x.s, true_and, hk2]
  rw [q5 (by omega)]
  refine ⟨fun h5 => ?_, fun h5 => ?_⟩
  · refine ⟨3476, s_rec51 k (by omega) 3475 0 3476 σ h rfl (by decide) x hk2 ?_⟩
    intro h' σ' x' g1 g2 g3 g4
    refine hK h' σ' x' ⟨g1, by rw [g2, rk, if_neg h5], fun i hi y hy => ?_⟩
    rw [rk, if_neg h5] at hi ⊢
    rw [if_neg h5, Nat.add_zero]
    by_cases e : i = k
    · subst e
      rw [if_pos rfl, g4 y (by omega) hy]
    · rw [if_neg (by omega), g3 _ (by omega), Nat.add_zero]
  · subst h5
    refine ⟨13901, s_rec10 13900 0 13901 σ h rfl (by decide) x hk2 ?_⟩
    intro h1 σ1 x1 f1 f2 f3 f4
    refine ⟨3476, s_rec51 4 (by omega) 3475 0 3476 σ1 h1 rfl (by decide) x1 f2 ?_⟩
    intro h' σ' x' g1 g2 g3 g4
    refine hK h' σ' x' ⟨fun f a b => (g1 f a b).trans (f1 f a b), g2, fun i hi y hy => ?_⟩
    have hi5 : i < 5 := hi
    show _ = if i + 1 = 5 then σ 0 y else σ 1 (3475 * (i + 1) + y)
    by_cases e : i = 4
    · subst e
      rw [if_pos rfl, g4 y (by omega) hy, f1 0 (by decide) (by decide)]
    · rw [if_neg (by omega), g3 _ (by omega), f3 _ (by omega) (by omega)]
      congr 1
      omega
end MREC
