/-! the class: the needed pieces are taken -/
theorem lst_comm (a b : Int32) : lst a b = lst b a := by
  unfold lst
  by_cases e : b ≤ a
  · rw [if_pos e]
    by_cases e2 : a ≤ b
    · rw [if_pos e2]; exact Int32.le_antisymm e e2
    · rw [if_neg e2]
  · rw [if_neg e, if_pos (Int32.le_of_lt (Int32.not_le.mp e))]
theorem XS.same {h h1 : Hp} {x : Nat} (s : XS h x) (hk : ∀ c, hK h c ≠ 0 → hK h1 c = hK h c ∧ hL h1 c = hL h c ∧ ∀ i, hR h1 c i = hR h c i) : XS h1 x ∧ ∀ k, xk k = true → xc h1 x 0 k = xc h x 0 k := by
  have r7 := (hk x (by have := s.1 7 rfl; rw [show xc h x 0 7 = x from rfl] at this; omega)).2.2
  have r1 := (hk (hR h x 0) (by have := s.1 1 rfl; rw [show xc h x 0 1 = hR h x 0 from rfl] at this; omega)).2.2
  have r6 := (hk (hR h x 1) (by have := s.1 6 rfl; rw [show xc h x 0 6 = hR h x 1 from rfl] at this; omega)).2.2
  have e : ∀ k, xk k = true → xc h1 x 0 k = xc h x 0 k := fun k hk => by
    unfold xk at hk
    simp only [Bool.or_eq_true, beq_iff_eq] at hk
    rcases hk with ((((((((e | e) | e) | e) | e) | e) | e) | e) | e) | e <;> subst e <;> simp only [xc, r7, r1, r6]
  refine ⟨⟨fun k hk' => ?_, fun k hk' => ?_⟩, e⟩
  · rw [e k hk', (hk _ (by rw [s.1 k hk']; intro z; rw [z] at hk'; cases hk')).1]; exact s.1 k hk'
  · have hx : xk k = true := by rcases hk' with z | z | z | z | z | z <;> subst z <;> rfl
    rw [e k hx, (hk _ (by rw [s.1 k hx]; intro z; rw [z] at hx; cases hx)).2.1]; exact s.2 k hk'
section CTAKE
variable {h0 h : Hp} {x q : Nat} {φ : Nat → Nat → Int32}
theorem XB.xs (y : XB h0 x q φ h) : XS h x ∧ ∀ k, xk k = true → xc h x 0 k = xc h0 x 0 k := y.1.same (fun c _ => ⟨y.2.2.2.1 c, y.2.2.2.2.1 c, y.2.2.2.2.2.1 c⟩)
/-- another heap with the same cells to begin with -/
theorem XB.re (y : XB h0 x q φ h) {h1 : Hp} (q1 : Nat) (hq : xk (hK h1 q1) = false) (hk : ∀ c, hK h c ≠ 0 → hK h1 c = hK h c ∧ hL h1 c = hL h c ∧ ∀ i, hR h1 c i = hR h c i) (hi : ∀ k, xk k = true → ∀ i, hI h1 (xc h x 0 k) i = hI h (xc h x 0 k) i) : ∃ φ1, XB h1 x q1 φ1 h1 ∧ (∀ k, xk k = true → φ1 k = φ k) ∧ ∀ i, φ1 20 i = hI h1 q1 i := by
  obtain ⟨s, e⟩ := y.xs
  obtain ⟨s1, e1⟩ := s.same hk
  refine ⟨_, XB.of s1 hq, fun k hk => ?_, fun i => rfl⟩
  funext i
  show hI h1 (xc h1 x q1 k) i = φ k i
  rw [xc_q q1 hk, e1 k hk, hi k hk, e k hk]
  exact y.I k hk i
theorem XB.nw (y : XB h0 x q φ h) {q1 k1 n1 : Nat} (hq1 : hK h q1 = 0) (q2 : Nat) (hq : xk (hK (nN h q1 k1 n1) q2) = false) : ∃ φ1, XB (nN h q1 k1 n1) x q2 φ1 (nN h q1 k1 n1) ∧ (∀ k, xk k = true → φ1 k = φ k) ∧ ∀ i, φ1 20 i = hI (nN h q1 k1 n1) q2 i := by
  refine y.re q2 hq (fun c hc => ?_) (fun k hk i => ?_)
  · have : ¬ c = q1 := fun e => hc (by rw [e]; exact hq1)
    exact ⟨by rw [hK_nN, if_neg this], by rw [hL_nN, if_neg this], fun i => by rw [hR_nN, if_neg this]⟩
  · have : ¬ xc h x 0 k = q1 := fun e => by
      have := y.xs.1.1 k hk
      rw [e, hq1] at this
      rw [← this] at hk; cases hk
    rw [hI_nN, if_neg this]
/-- which of the pieces are taken -/
def TnR (ρ : Row) (hm : Nat) (w : Nat → Int32) (φ0 : Nat → Nat → Int32) (D : Nat → Nat → Prop) (φ : Nat → Nat → Int32) : Prop :=
  (∀ k, k ≠ 20 → k ≠ 35 → φ k = φ0 k) ∧ ∀ c s, c < 6 → s < 29 → (D c s → φ 35 (29 * c + s) = ρ (8 + 29 * c + s) - tk ρ hm s (w s) c ∧ φ 20 (29 * c + s) = tk ρ hm s (w s) c) ∧ (¬ D c s → φ 35 (29 * c + s) = ρ (8 + 29 * c + s) ∧ φ 20 (29 * c + s) = 0)
theorem TnR.iff {ρ : Row} {hm : Nat} {w : Nat → Int32} {φ0 φ : Nat → Nat → Int32} {D D' : Nat → Nat → Prop} (g : TnR ρ hm w φ0 D φ) (e : ∀ c s, c < 6 → s < 29 → (D' c s ↔ D c s)) : TnR ρ hm w φ0 D' φ :=
  ⟨g.1, fun c s a b => ⟨fun z => (g.2 c s a b).1 ((e c s a b).mp z), fun z => (g.2 c s a b).2 (fun z2 => z ((e c s a b).mpr z2))⟩⟩
theorem TnR.step {ρ : Row} {hm : Nat} {w : Nat → Int32} {φ0 φ : Nat → Nat → Int32} {D D' : Nat → Nat → Prop} (g : TnR ρ hm w φ0 D φ) {c0 s0 : Nat} (hc : c0 < 6) (hs : s0 < 29) (hn : ¬ D c0 s0) (hD : ∀ c s, c < 6 → s < 29 → (D' c s ↔ D c s ∨ (c = c0 ∧ s = s0))) :
    TnR ρ hm w φ0 D' (up (up φ 20 (29 * c0 + s0) (φ 20 (29 * c0 + s0) + tk ρ hm s0 (w s0) c0)) 35 (29 * c0 + s0) (φ 35 (29 * c0 + s0) + -tk ρ hm s0 (w s0) c0)) := by
  obtain ⟨g1, g2⟩ := g
  refine ⟨fun k a b => ?_, fun c s a b => ?_⟩
  · rw [← g1 k a b]; funext i; rw [up_f b, up_f a]
  · by_cases e : c = c0 ∧ s = s0
    · obtain ⟨rfl, rfl⟩ := e
      obtain ⟨n1, n2⟩ := (g2 c s a b).2 hn
      refine ⟨fun _ => ⟨?_, ?_⟩, fun z => absurd ((hD c s a b).mpr (Or.inr ⟨rfl, rfl⟩)) z⟩
      · rw [up_s, n1, ← Int32.sub_eq_add_neg]
      · rw [up_f (by decide), up_s, n2, Int32.zero_add]
    · have e1 : 29 * c + s ≠ 29 * c0 + s0 := by omega
      have hd : D' c s ↔ D c s := ⟨fun z => ((hD c s a b).mp z).elim id (fun q => absurd q e), fun z => (hD c s a b).mpr (Or.inl z)⟩
      rw [up_i e1, up_f (show (20 : Nat) ≠ 35 by decide), up_f (show (35 : Nat) ≠ 20 by decide), up_i e1]
      exact ⟨fun z => (g2 c s a b).1 (hd.mp z), fun z => (g2 c s a b).2 (fun q => z (hd.mpr q))⟩
theorem k_takePieces (y : XB h0 x q φ h) (hq : hK h0 q = 20) (hl : hL h0 q = 174) {c s : Nat} (hc : c < 6) (hs : s < 29) (v : Int32) {K : Int32 → Hp → Prop} {t : Int32} (ht : lst v (φ 35 (29 * c + s)) = t)
    (kk : ∀ h1, XB h0 x q (up (up φ 20 (29 * c + s) (φ 20 (29 * c + s) + t)) 35 (29 * c + s) (φ 35 (29 * c + s) + -t)) h1 → K t h1) : V_X6_takePieces x q (nI c) (nI s) v h K := by
  unfold V_X6_takePieces V_X6_takePieces_35 V_X6_slotOf
  have kq : hK h q = 20 := (y.2.2.2.1 q).trans hq
  have lq : hL h q = 174 := (y.2.2.2.2.1 q).trans hl
  refine ⟨y.K 7 rfl, ?_⟩
  simp only [y.s, true_and]
  rw [k_held y hc hs, lst_lt, lst_comm, ht, e29]
  simp only [kq, lq, ix_nI (show 29 * c + s < 2 ^ 31 by omega), show vp_in (nI (29 * c + s)) 174 from vin (by omega) (by omega), true_and]
  refine ⟨fun z => absurd z (cn0 (by omega)), fun _ => ⟨fun _ h3 e3 => ?_, fun z => absurd (nI_lt (show 29 * c + s < 174 by omega) (by decide)) z⟩⟩
  rw [y.Iq] at e3
  have y3 := y.put 20 (Or.inr rfl) e3
  refine ⟨y3.K 7 rfl, ?_⟩
  simp only [y3.s, true_and]
  refine k_put y3 hc hs _ (fun h4 y4 => ?_)
  rw [up_f (show (35 : Nat) ≠ 20 by decide)] at y4
  exact kk h4 y4
end CTAKE
