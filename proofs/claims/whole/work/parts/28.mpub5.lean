/-! the reference's calls: texts, undo, keep, restore -/
section MPUB5
variable {h0 h : Hp} {m : Nat} {σ : Nat → Nat → Int32} {K : Int32 → Hp → Prop} {k : Nat}
theorem m_type (x : MB h0 m σ h) {t : Nat} (ht : t ≤ 60) (ht2 : σ 5 0 = nI t) (a : Int32) (h60 : t = 60 → K (-3) h) (hK : t < 60 → ∀ h' σ', MB h0 m σ' h' → (∀ f, f < 5 → σ' f = σ f) → σ' 5 0 = nI (t + 1) → (∀ i, σ' 6 i = if i = t then a else σ 6 i) → K (nI (t + 1)) h') : V_X7_type m a h K := by
  unfold V_X7_type
  simp only [x.s, true_and, ht2]
  rw [q60 (by omega)]
  refine ⟨fun q => ?_, fun q => h60 q⟩
  simp only [ix_nI (show t < 2 ^ 31 by omega), show vp_in (nI t) 60 from vin (by omega) (by omega), true_and]
  intro h1 e1
  have x1 := x.pa 6 rfl e1
  simp only [x1.s, true_and]
  intro h2 e2
  have x2 := x1.ps 5 rfl e2
  simp only [x2.s, true_and]
  rw [up_s, up_f (by decide), ht2, nI_1]
  refine hK (by omega) h2 _ x2 (fun f hf => by funext y; rw [up_f (by omega), up_f (by omega)]) (by rw [up_s, up_f (by decide), ht2, nI_1]) (fun i => ?_)
  rw [up_f (by decide)]
  simp only [up_e, true_and]
theorem m_clear (x : MB h0 m σ h) (hK : ∀ h' σ', MB h0 m σ' h' → (∀ f, f ≠ 5 → σ' f = σ f) → σ' 5 0 = 0 → K (σ 5 0) h') : V_X7_clearText m h K := by
  unfold V_X7_clearText
  simp only [x.s, true_and]
  intro h1 e1
  exact hK h1 _ (x.ps 5 rfl e1) (fun f hf => by funext y; exact up_f hf) (up_s _ _ _ _)
theorem s_undo22 (k : Nat) (hk : k < 5) (σ0 : Nat → Nat → Int32) (hk2 : σ0 2 0 = nI k) (hK : ∀ h' σ', MB h0 m σ' h' → (∀ f, 1 ≤ f → σ' f = σ0 f) → (∀ x, x < 3475 → σ' 0 x = σ0 1 (3475 * k + x)) → K (nI k) h') :
    ∀ (d i n : Nat) (σ : Nat → Nat → Int32) (h : Hp), i + d = 3475 → d < n → MB h0 m σ h → (∀ f, 1 ≤ f → σ f = σ0 f) → (∀ x, x < i → σ 0 x = σ0 1 (3475 * k + x)) → V_X7_undo_22 K n m (nI i) h := by
  intro d
  induction d with
  | zero =>
    intro i n σ h h1 h2 x f1 g1
    obtain ⟨n, rfl⟩ : ∃ k, n = k + 1 := ⟨n - 1, by omega⟩
    obtain rfl : i = 3475 := by omega
    unfold V_X7_undo_22
    simp only [x.s, true_and, f1 2 (by decide), hk2]
    exact ⟨fun _ => hK h σ x f1 g1, fun q => absurd (by decide) q⟩
  | succ d ih =>
    intro i n σ h h1 h2 x f1 g1
    obtain ⟨n, rfl⟩ : ∃ k, n = k + 1 := ⟨n - 1, by omega⟩
    unfold V_X7_undo_22
    rw [c3475 (by omega)]
    refine ⟨fun q => absurd q (by omega), fun _ => ?_⟩
    simp only [x.s, true_and, f1 2 (by decide), f1 1 (by decide), hk2, e3475, ix_nI (show i < 2 ^ 31 by omega), ix_nI (show 3475 * k + i < 2 ^ 31 by omega), show vp_in (nI i) 3475 from vin (by omega) (by omega), show vp_in (nI (3475 * k + i)) 17375 from vin (by omega) (by omega), nI_1]
    intro h1 e
    refine ih (i + 1) n _ h1 (by omega) (by omega) (x.pa 0 rfl e) (fun f hf => by rw [← f1 f hf]; funext y; exact up_f (by omega)) (fun y hy => ?_)
    by_cases e : y = i
    · subst e; rw [up_s]
    · rw [up_i e]; exact g1 y (by omega)
theorem m_undo (x : MB h0 m σ h) (hk : k ≤ 5) (hk2 : σ 2 0 = nI k) (hz : k = 0 → K (-5) h) (hK : ∀ k1, k = k1 + 1 → ∀ h' σ', MB h0 m σ' h' → (∀ x, x < 3475 → σ' 0 x = σ 1 (3475 * k1 + x)) → σ' 2 0 = nI k1 → (∀ f, f ≠ 0 → f ≠ 2 → σ' f = σ f) → K (nI k1) h') : V_X7_undo m h K := by
  unfold V_X7_undo
  simp only [x.s, true_and, hk2]
  rw [q0 (by omega)]
  refine ⟨fun q => ?_, fun q => hz q⟩
  obtain ⟨k1, rfl⟩ : ∃ k1, k = k1 + 1 := ⟨k - 1, by omega⟩
  rw [nI_pred]
  intro h1 e1
  have x1 := x.ps 2 rfl e1
  refine ⟨3476, s_undo22 k1 (by omega) _ (up_s _ _ _ _) (fun h' σ' x' f1 g1 => ?_) 3475 0 3476 _ h1 rfl (by decide) x1 (fun _ _ => rfl) (fun _ q => absurd q (Nat.not_lt_zero _))⟩
  refine hK k1 rfl h' σ' x' (fun y hy => ?_) ?_ (fun f a b => ?_)
  · rw [g1 y hy, up_f (by decide)]
  · rw [f1 2 (by decide), up_s]
  · rw [f1 f (by omega)]; funext y; exact up_f b
theorem s_keep2 (σ0 : Nat → Nat → Int32) (hK : ∀ h' σ', MB h0 m σ' h' → (∀ f, f ≠ 3 → f ≠ 4 → σ' f = σ0 f) → σ' 4 0 = 1 → (∀ x, x < 3475 → σ' 3 x = σ0 0 x) → K (σ0 0 1) h') :
    ∀ (d i n : Nat) (σ : Nat → Nat → Int32) (h : Hp), i + d = 3475 → d < n → MB h0 m σ h → (∀ f, f ≠ 3 → σ f = σ0 f) → (∀ x, x < i → σ 3 x = σ0 0 x) → V_X7_keep_2 K n m (nI i) h := by
  intro d
  induction d with
  | zero =>
    intro i n σ h h1 h2 x f1 g1
    obtain ⟨n, rfl⟩ : ∃ k, n = k + 1 := ⟨n - 1, by omega⟩
    obtain rfl : i = 3475 := by omega
    unfold V_X7_keep_2
    refine ⟨fun _ => ⟨x.k, Or.inr rfl, ?_⟩, fun q => absurd (by decide) q⟩
    intro h1 e1
    have x1 := x.ps 4 rfl e1
    simp only [x1.s, LT, true_and]
    rw [up_f (by decide), f1 0 (by decide)]
    exact hK h1 _ x1 (fun f a b => by rw [← f1 f a]; funext y; exact up_f b) (up_s _ _ _ _) (fun y hy => by rw [up_f (by decide)]; exact g1 y hy)
  | succ d ih =>
    intro i n σ h h1 h2 x f1 g1
    obtain ⟨n, rfl⟩ : ∃ k, n = k + 1 := ⟨n - 1, by omega⟩
    unfold V_X7_keep_2
    rw [c3475 (by omega)]
    refine ⟨fun q => absurd q (by omega), fun _ => ?_⟩
    simp only [x.s, true_and, f1 0 (by decide), ix_nI (show i < 2 ^ 31 by omega), show vp_in (nI i) 3475 from vin (by omega) (by omega), nI_1]
    intro h1 e
    refine ih (i + 1) n _ h1 (by omega) (by omega) (x.pa 3 rfl e) (fun f hf => by rw [← f1 f hf]; funext y; exact up_f hf) (fun y hy => ?_)
    by_cases e : y = i
    · subst e; rw [up_s]
    · rw [up_i e]; exact g1 y (by omega)
theorem m_keep (x : MB h0 m σ h) (hK : ∀ h' σ', MB h0 m σ' h' → (∀ f, f ≠ 3 → f ≠ 4 → σ' f = σ f) → σ' 4 0 = 1 → (∀ x, x < 3475 → σ' 3 x = σ 0 x) → K (σ 0 1) h') : V_X7_keep m h K :=
  ⟨3476, s_keep2 σ hK 3475 0 3476 σ h rfl (by decide) x (fun _ _ => rfl) (fun _ q => absurd q (Nat.not_lt_zero _))⟩
theorem s_rest16 (σ0 : Nat → Nat → Int32) (hK : ∀ h' σ', MB h0 m σ' h' → (∀ f, 1 ≤ f → σ' f = σ0 f) → (∀ x, x < 3475 → σ' 0 x = σ0 3 x) → K (σ0 3 1) h') :
    ∀ (d i n : Nat) (σ : Nat → Nat → Int32) (h : Hp), i + d = 3475 → d < n → MB h0 m σ h → (∀ f, 1 ≤ f → σ f = σ0 f) → (∀ x, x < i → σ 0 x = σ0 3 x) → V_X7_restore_16 K n m (nI i) h := by
  intro d
  induction d with
  | zero =>
    intro i n σ h h1 h2 x f1 g1
    obtain ⟨n, rfl⟩ : ∃ k, n = k + 1 := ⟨n - 1, by omega⟩
    obtain rfl : i = 3475 := by omega
    unfold V_X7_restore_16
    simp only [x.s, LT, true_and]
    rw [g1 1 (by decide)]
    exact ⟨fun _ => hK h σ x f1 g1, fun q => absurd (by decide) q⟩
  | succ d ih =>
    intro i n σ h h1 h2 x f1 g1
    obtain ⟨n, rfl⟩ : ∃ k, n = k + 1 := ⟨n - 1, by omega⟩
    unfold V_X7_restore_16
    rw [c3475 (by omega)]
    refine ⟨fun q => absurd q (by omega), fun _ => ?_⟩
    simp only [x.s, true_and, f1 3 (by decide), ix_nI (show i < 2 ^ 31 by omega), show vp_in (nI i) 3475 from vin (by omega) (by omega), nI_1]
    intro h1 e
    refine ih (i + 1) n _ h1 (by omega) (by omega) (x.pa 0 rfl e) (fun f hf => by rw [← f1 f hf]; funext y; exact up_f (by omega)) (fun y hy => ?_)
    by_cases e : y = i
    · subst e; rw [up_s]
    · rw [up_i e]; exact g1 y (by omega)
def sp_restore (filled : Int32) (slot : Row) : Ans := if filled = 0 then no (-5) else did (slot 1) (fun ρ' => ∀ x, x < 3475 → ρ' x = slot x)
theorem m_restore (x : MB h0 m σ h) (hk : k ≤ 5) (hk2 : σ 2 0 = nI k) (hO : OM h0 m σ k K (sp_restore (σ 4 0) (σ 3))) : V_X7_restore m h K := by
  unfold V_X7_restore
  unfold sp_restore at hO
  simp only [x.s, true_and]
  refine ⟨fun q => ?_, fun q => ?_⟩
  · rw [if_neg q] at hO
    refine s_record x hk hk2 (fun h1 σ1 x1 r1 => ⟨3476, ?_⟩)
    have e3 := r1.1 3 (by decide) (by decide)
    refine s_rest16 σ1 (fun h' σ' x' f1 g1 => ?_) 3475 0 3476 σ1 h1 rfl (by decide) x1 (fun _ _ => rfl) (fun _ q => absurd q (Nat.not_lt_zero _))
    rw [e3] at g1 ⊢
    exact hO.did x' (Act.of r1 (fun f a _ => f1 f a) g1)
  · rw [if_pos q] at hO
    exact hO.no x Idle.rf
end MPUB5
