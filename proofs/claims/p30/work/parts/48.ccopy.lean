/-! the class's states: they are well made and apart; one is copied over another -/
def GS (h : Hp) : Prop :=
  (∀ s, hK h s = 6 → (hK h (hR h s 0) = 35 ∧ hL h (hR h s 0) = 174) ∧ (hK h (hR h s 1) = 36 ∧ hL h (hR h s 1) = 29) ∧ hK h (hR h s 2) = 22 ∧ hL h (hR h s 2) = 12 ∧ ∀ i, i < 12 → hR h (hR h s 2) i = 0 ∨ hK h (hR h (hR h s 2) i) = 2) ∧
  ∀ s t, hK h s = 6 → hK h t = 6 → s ≠ t → hR h s 0 ≠ hR h t 0 ∧ hR h s 1 ≠ hR h t 1 ∧ hR h s 2 ≠ hR h t 2
def CpR (h : Hp) (a b : Nat) (h' : Hp) : Prop :=
  (∀ c, hK h' c = hK h c) ∧ (∀ c, hL h' c = hL h c) ∧ (∀ c, c ≠ a → c ≠ hR h a 0 → c ≠ hR h a 1 → ∀ i, hI h' c i = hI h c i) ∧ (∀ c, c ≠ hR h a 2 → ∀ i, hR h' c i = hR h c i) ∧
  (∀ i, i < 8 → hI h' a (i + 3) = hI h b (i + 3)) ∧ (∀ i, i < 174 → hI h' (hR h a 0) i = hI h (hR h b 0) i) ∧ (∀ i, i < 29 → hI h' (hR h a 1) i = hI h (hR h b 1) i) ∧ ∀ i, i < 12 → hR h' (hR h a 2) i = hR h (hR h b 2) i
theorem k_copyFrom {h : Hp} {a b : Nat} {K : Hp → Prop} (g : GS h) (ha : hK h a = 6) (hb : hK h b = 6) (hab : a ≠ b) (kk : ∀ h', CpR h a b h' → K h') : V_X5_copyFrom a b h K := by
  obtain ⟨⟨a1, a2⟩, ⟨a3, a4⟩, a5, a6, a7⟩ := g.1 a ha
  obtain ⟨⟨b1, b2⟩, ⟨b3, b4⟩, b5, b6, b7⟩ := g.1 b hb
  obtain ⟨d0, d1, d2⟩ := g.2 a b ha hb hab
  have i0 : ix 0 = 0 := rfl
  have i174 : ix 174 = 174 := rfl
  have i29 : ix 29 = 29 := rfl
  unfold V_X5_copyFrom
  rw [a1, a2, b1, b2, i0, i174]
  refine ⟨hb, ha, rfl, rfl, by decide, by decide, by decide, by decide, by decide, fun h1 e1 => ?_⟩
  have k1 : ∀ c, hK h1 c = hK h c := fun c => by rw [e1]; rfl
  have l1 : ∀ c, hL h1 c = hL h c := fun c => by rw [e1]; rfl
  have r1 : ∀ c i, hR h1 c i = hR h c i := fun c i => by rw [e1]; rfl
  rw [r1, r1, k1, k1, k1, k1, l1, l1, a3, a4, b3, b4, i29]
  refine ⟨hb, ha, rfl, rfl, by decide, by decide, by decide, by decide, by decide, fun h2 e2 => ?_⟩
  have k2 : ∀ c, hK h2 c = hK h c := fun c => by rw [e2]; exact k1 c
  have l2 : ∀ c, hL h2 c = hL h c := fun c => by rw [e2]; exact l1 c
  have r2 : ∀ c i, hR h2 c i = hR h c i := fun c i => by rw [e2]; exact r1 c i
  have n01 : hR h a 0 ≠ hR h a 1 := fun e => by rw [e, a3] at a1; omega
  have n0b1 : hR h b 1 ≠ hR h a 0 := fun e => by rw [e, a1] at b3; omega
  have na0 : a ≠ hR h a 0 := fun e => by rw [← e, ha] at a1; omega
  have na1 : a ≠ hR h a 1 := fun e => by rw [← e, ha] at a3; omega
  have nb0 : b ≠ hR h a 0 := fun e => by rw [← e, hb] at a1; omega
  have nb1 : b ≠ hR h a 1 := fun e => by rw [← e, hb] at a3; omega
  have na2 : a ≠ hR h a 2 := fun e => by rw [← e, ha] at a5; omega
  have nb2 : b ≠ hR h a 2 := fun e => by rw [← e, hb] at a5; omega
  have v2 : ∀ c, c ≠ hR h a 0 → c ≠ hR h a 1 → ∀ i, hI h2 c i = hI h c i := fun c x y i => by
    rw [e2, hI_cp, if_neg (fun (q : c = hR h a 1 ∧ 0 ≤ i ∧ i < 0 + 29) => y q.1), e1, hI_cp, if_neg (fun (q : c = hR h a 0 ∧ 0 ≤ i ∧ i < 0 + 174) => x q.1)]
  have v0 : ∀ i, i < 174 → hI h2 (hR h a 0) i = hI h (hR h b 0) i := fun i hi => by
    rw [e2, hI_cp, if_neg (fun (q : hR h a 0 = hR h a 1 ∧ 0 ≤ i ∧ i < 0 + 29) => n01 q.1), e1, hI_cp, if_pos ⟨rfl, by omega, by omega⟩]
    congr 1; omega
  have v1 : ∀ i, i < 29 → hI h2 (hR h a 1) i = hI h (hR h b 1) i := fun i hi => by
    rw [e2, hI_cp, if_pos ⟨rfl, by omega, by omega⟩, show 0 + (i - 0) = i by omega, e1, hI_cp, if_neg (fun (q : hR h b 1 = hR h a 0 ∧ 0 ≤ i ∧ i < 0 + 174) => n0b1 q.1)]
  have key : ∀ (d i n : Nat) (h3 : Hp), i + d = 12 → d < n → (∀ c, hK h3 c = hK h c) → (∀ c, hL h3 c = hL h c) → (∀ c i, hI h3 c i = hI h2 c i) → (∀ c, c ≠ hR h a 2 → ∀ k, hR h3 c k = hR h c k) → (∀ k, k < i → hR h3 (hR h a 2) k = hR h (hR h b 2) k) → V_X5_copyFrom_33 K n a b (nI i) h3 := by
    intro d
    induction d with
    | zero =>
      intro i n h3 p1 p2 k3 l3 v3 r3 s3
      obtain ⟨n, rfl⟩ : ∃ k, n = k + 1 := ⟨n - 1, by omega⟩
      obtain rfl : i = 12 := by omega
      refine ⟨fun _ => ?_, fun z => absurd (by decide) z⟩
      have va : ∀ i, hI h3 b i = hI h b i := fun i => by rw [v3, v2 b nb0 nb1]
      have nba : ∀ i j : Nat, ¬ (b = a ∧ i = j) := fun i j z => hab z.1.symm
      refine ⟨(k3 b).trans hb, (k3 a).trans ha, fun g1 f1 => ⟨by rw [f1]; exact (k3 b).trans hb, by rw [f1]; exact (k3 a).trans ha, fun g2 f2 => ⟨by rw [f2, f1]; exact (k3 b).trans hb, by rw [f2, f1]; exact (k3 a).trans ha, fun g3 f3 => ⟨by rw [f3, f2, f1]; exact (k3 b).trans hb, by rw [f3, f2, f1]; exact (k3 a).trans ha, fun g4 f4 => ⟨by rw [f4, f3, f2, f1]; exact (k3 b).trans hb, by rw [f4, f3, f2, f1]; exact (k3 a).trans ha, fun g5 f5 => ⟨by rw [f5, f4, f3, f2, f1]; exact (k3 b).trans hb, by rw [f5, f4, f3, f2, f1]; exact (k3 a).trans ha, fun g6 f6 => ⟨by rw [f6, f5, f4, f3, f2, f1]; exact (k3 b).trans hb, by rw [f6, f5, f4, f3, f2, f1]; exact (k3 a).trans ha, fun g7 f7 => ⟨by rw [f7, f6, f5, f4, f3, f2, f1]; exact (k3 b).trans hb, by rw [f7, f6, f5, f4, f3, f2, f1]; exact (k3 a).trans ha, fun g8 f8 => ?_⟩⟩⟩⟩⟩⟩⟩⟩
      have w1 : ∀ i, hI g1 b i = hI h b i := fun i => by rw [f1, hI_sI, if_neg (nba _ _), va]
      have w2 : ∀ i, hI g2 b i = hI h b i := fun i => by rw [f2, hI_sI, if_neg (nba _ _), w1]
      have w3 : ∀ i, hI g3 b i = hI h b i := fun i => by rw [f3, hI_sI, if_neg (nba _ _), w2]
      have w4 : ∀ i, hI g4 b i = hI h b i := fun i => by rw [f4, hI_sI, if_neg (nba _ _), w3]
      have w5 : ∀ i, hI g5 b i = hI h b i := fun i => by rw [f5, hI_sI, if_neg (nba _ _), w4]
      have w6 : ∀ i, hI g6 b i = hI h b i := fun i => by rw [f6, hI_sI, if_neg (nba _ _), w5]
      have w7 : ∀ i, hI g7 b i = hI h b i := fun i => by rw [f7, hI_sI, if_neg (nba _ _), w6]
      rw [va] at f1
      rw [w1] at f2
      rw [w2] at f3
      rw [w3] at f4
      rw [w4] at f5
      rw [w5] at f6
      rw [w6] at f7
      rw [w7] at f8
      have oth : ∀ c, c ≠ a → ∀ i, hI g8 c i = hI h3 c i := fun c hc i => by
        simp only [f8, f7, f6, f5, f4, f3, f2, f1, hI_sI, hc, false_and, if_false]
      refine kk g8 ⟨fun c => by rw [f8, f7, f6, f5, f4, f3, f2, f1]; exact k3 c, fun c => by rw [f8, f7, f6, f5, f4, f3, f2, f1]; exact l3 c, fun c x y z i => by rw [oth c x, v3, v2 c y z], fun c x i => by rw [f8, f7, f6, f5, f4, f3, f2, f1]; exact r3 c x i, fun i hi => ?_, fun i hi => by rw [oth _ na0.symm, v3, v0 i hi], fun i hi => by rw [oth _ na1.symm, v3, v1 i hi], fun i hi => by rw [f8, f7, f6, f5, f4, f3, f2, f1]; exact s3 i hi⟩
      simp only [f8, f7, f6, f5, f4, f3, f2, f1, hI_sI, true_and]
      rcases (by omega : i = 0 ∨ i = 1 ∨ i = 2 ∨ i = 3 ∨ i = 4 ∨ i = 5 ∨ i = 6 ∨ i = 7) with e | e | e | e | e | e | e | e <;> subst e <;> rfl
    | succ d ih =>
      intro i n h3 p1 p2 k3 l3 v3 r3 s3
      obtain ⟨n, rfl⟩ : ∃ k, n = k + 1 := ⟨n - 1, by omega⟩
      unfold V_X5_copyFrom_33
      rw [c12 (by omega), nI_1, r3 a na2, r3 b nb2, ix_nI (by omega), k3, k3, k3, k3, l3, l3, a5, a6, b5, b6, r3 _ d2.symm, k3]
      refine ⟨fun z => absurd z (by omega), fun _ => ⟨ha, hb, rfl, vin (by omega) (by decide), rfl, vin (by omega) (by decide), b7 i (by omega), fun h4 e4 => ?_⟩⟩
      refine ih (i + 1) n h4 (by omega) (by omega) (fun c => by rw [e4]; exact k3 c) (fun c => by rw [e4]; exact l3 c) (fun c k => by rw [e4]; exact v3 c k) (fun c hc k => ?_) (fun k hk => ?_)
      · rw [e4, hR_sR, if_neg (fun (z : c = hR h a 2 ∧ k = i) => hc z.1)]; exact r3 c hc k
      · rw [e4, hR_sR]
        by_cases e : k = i
        · rw [if_pos ⟨rfl, e⟩, e]
        · rw [if_neg (fun (z : hR h a 2 = hR h a 2 ∧ k = i) => e z.2)]; exact s3 k (by omega)
  exact ⟨13, key 12 0 13 h2 rfl (by decide) k2 l2 (fun _ _ => rfl) (fun c _ k => r2 c k) (fun k hk => absurd hk (Nat.not_lt_zero _))⟩
