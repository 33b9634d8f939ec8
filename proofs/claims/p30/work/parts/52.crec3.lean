/-! the class records its state: the oldest goes; the whole walk -/
section CREC3
variable {h : Hp} {x : Nat}
theorem k_drop {K : Hp → Prop} (g : HS h x) (hk : hI h x 3 = nI 5)
    (kk : ∀ h1, (∀ c, hK h1 c = hK h c) → (∀ c, hL h1 c = hL h c) → (∀ c i, (c = x → i ≠ 3) → hI h1 c i = hI h c i) → (∀ c, c ≠ hR h x 2 → ∀ i, hR h1 c i = hR h c i) → hI h1 x 3 = nI 4 → (∀ i, i < 4 → hs h1 x i = hs h x (i + 1)) → hs h1 x 4 = hs h x 0 → K h1) : V_X6_dropOldestState x h K := by
  have kx := g.kx
  have kb := g.2.2.1.1
  have lb := g.2.2.1.2
  have nx : x ≠ hR h x 2 := fun e => by rw [← e, kx] at kb; omega
  have key : ∀ (d i n : Nat) (h1 : Hp), i + d = 5 → 1 ≤ i → d < n → (∀ c, hK h1 c = hK h c) → (∀ c, hL h1 c = hL h c) → (∀ c j, hI h1 c j = hI h c j) → (∀ c, c ≠ hR h x 2 → ∀ j, hR h1 c j = hR h c j) → (∀ j, j < 5 → hR h1 (hR h x 2) j = if j + 1 < i then hs h x (j + 1) else hs h x j) → V_X6_dropOldestState_9 K n x (hs h x 0) (nI i) h1 := by
    intro d
    induction d with
    | zero =>
      intro i n h1 p1 p0 p2 k1 l1 v1 r1 s1
      obtain ⟨n, rfl⟩ : ∃ k, n = k + 1 := ⟨n - 1, by omega⟩
      obtain rfl : i = 5 := by omega
      unfold V_X6_dropOldestState_9
      rw [r1 x nx, k1, k1, l1, kb, lb, show (nI 5 - 1) = nI 4 from pk_sub (a := 5) (b := 1) (by decide), ix_nI (by decide), k1]
      refine ⟨kx, rfl, fun _ => ⟨kx, kx, rfl, rfl, vin (by decide) (by decide), g.2.2.2.1 0 (by decide), fun h2 e2 => ⟨by rw [e2]; exact (k1 x).trans kx, by rw [e2]; exact (k1 x).trans kx, fun h3 e3 => ?_⟩⟩, fun z => absurd (by decide) z⟩
      have r3 : ∀ c, c ≠ hR h x 2 → ∀ j, hR h3 c j = hR h c j := fun c hc j => by rw [e3, hR_sI, e2, hR_sR, if_neg (fun (z : c = hR h x 2 ∧ j = 4) => hc z.1)]; exact r1 c hc j
      have hb : ∀ j, j < 5 → hs h3 x j = if j = 4 then hs h x 0 else hs h x (j + 1) := fun j hj => by
        unfold hs
        rw [r3 x nx, e3, hR_sI, e2, hR_sR]
        by_cases e : j = 4
        · rw [if_pos ⟨rfl, e⟩, if_pos e]; rfl
        · rw [if_neg (fun (z : hR h x 2 = hR h x 2 ∧ j = 4) => e z.2), if_neg e, s1 j hj, if_pos (by omega)]; rfl
      have h2v : ∀ c j, hI h2 c j = hI h c j := fun c j => by rw [e2]; exact v1 c j
      rw [h2v, hk, show (nI 5 - 1) = nI 4 from pk_sub (a := 5) (b := 1) (by decide)] at e3
      refine kk h3 (fun c => by rw [e3, e2]; exact k1 c) (fun c => by rw [e3, e2]; exact l1 c) (fun c j hc => ?_) r3 ?_ (fun j hj => ?_) ?_
      · rw [e3, hI_sI, if_neg (fun (z : c = x ∧ j = 3) => hc z.1 z.2)]; exact h2v c j
      · rw [e3, hI_sI, if_pos ⟨rfl, rfl⟩]
      · rw [hb j (by omega), if_neg (by omega)]
      · rw [hb 4 (by decide), if_pos rfl]
    | succ d ih =>
      intro i n h1 p1 p0 p2 k1 l1 v1 r1 s1
      obtain ⟨n, rfl⟩ : ∃ k, n = k + 1 := ⟨n - 1, by omega⟩
      obtain ⟨m, rfl⟩ : ∃ m, i = m + 1 := ⟨i - 1, by omega⟩
      unfold V_X6_dropOldestState_9
      rw [r1 x nx, k1, k1, l1, kb, lb, show (nI (m + 1) - 1) = nI m from pk_sub (a := m + 1) (b := 1) (by omega), ix_nI (show m + 1 < 2 ^ 31 by omega), ix_nI (show m < 2 ^ 31 by omega), s1 (m + 1) (by omega), if_neg (by omega), nI_1, k1 (hs h x (m + 1))]
      rw [nle (nc := 5) (by decide) (by omega)]
      refine ⟨kx, rfl, fun z => absurd z (by omega), fun _ => ⟨kx, kx, rfl, vin (by omega) (by decide), rfl, vin (by omega) (by decide), g.2.2.2.1 (m + 1) (by omega), fun h2 e2 => ?_⟩⟩
      refine ih (m + 1 + 1) n h2 (by omega) (by omega) (by omega) (fun c => by rw [e2]; exact k1 c) (fun c => by rw [e2]; exact l1 c) (fun c j => by rw [e2]; exact v1 c j) (fun c hc j => ?_) (fun j hj => ?_)
      · rw [e2, hR_sR, if_neg (fun (z : c = hR h x 2 ∧ j = m) => hc z.1)]; exact r1 c hc j
      · rw [e2, hR_sR]
        by_cases e : j = m
        · rw [if_pos ⟨rfl, e⟩, if_pos (by omega), e]
        · rw [if_neg (fun (z : hR h x 2 = hR h x 2 ∧ j = m) => e z.2), s1 j hj]
          by_cases e2' : j + 1 < m + 1
          · rw [if_pos e2', if_pos (by omega)]
          · rw [if_neg e2', if_neg (by omega)]
  unfold V_X6_dropOldestState
  refine ⟨kx, kb, by rw [lb]; exact vin (n := 0) (by decide) (by decide), 5, ?_⟩
  exact key 4 1 5 h rfl (by decide) (by decide) (fun _ => rfl) (fun _ => rfl) (fun _ _ => rfl) (fun _ _ _ => rfl) (fun j hj => by rw [if_neg (by omega)]; rfl)
/-- a state is recorded: H what the history holds -/
theorem k_record {K : Hp → Prop} {k : Nat} {ρ : Row} (H : Nat → Row) (g : HS h x) (hk : hI h x 3 = nI k) (k5 : k ≤ 5) (S : StR h (hR h x 1) ρ) (hH : ∀ i, i < k → StR h (hs h x i) (H i))
    (kk : ∀ h', HS h' x → FR h h' → Qt h x h' → hI h' x 3 = nI (rk k) → (∀ i, i < rk k → StR h' (hs h' x i) (if i + 1 = rk k then ρ else H (i + if k = 5 then 1 else 0))) → (∀ i, hR h' x i = hR h x i) → K h') : V_X6_recordState x h K := by
  have kx := g.kx
  unfold V_X6_recordState
  rw [hk]
  refine ⟨kx, fun z => ?_, fun z => ⟨kx, ?_⟩⟩
  · have k4 : k < 5 := by
      rw [Int32.lt_iff_toInt_lt, nI_toInt (by omega)] at z
      have : (5 : Int32).toInt = 5 := by decide
      omega
    have er : rk k = k + 1 := by unfold rk; rw [if_neg (by omega)]
    refine k_rec12 (ρ := ρ) g hk k4 S (fun h' g' f' t' i' s' n' r' => kk h' g' f' t' (by rw [er]; exact i') (fun i hi => ?_) r')
    rw [er] at hi
    by_cases e : i + 1 = rk k
    · rw [if_pos e, show i = k by omega]; exact n'
    · rw [if_neg e, if_neg (show ¬ k = 5 by omega)]
      exact s' i (by omega) (by omega) _ (hH i (by omega))
  · have k6 : k = 5 := by
      rw [Int32.lt_iff_toInt_lt, nI_toInt (by omega)] at z
      have : (5 : Int32).toInt = 5 := by decide
      omega
    subst k6
    refine k_drop g hk (fun h1 k1 l1 v1 r1 i1 s1 s4 => ?_)
    have kb := g.2.2.1.1
    have gs1 : GS h1 := by
      have nb : ∀ s, hK h s = 6 → s ≠ hR h x 2 ∧ hR h s 2 ≠ hR h x 2 := fun s hs' => ⟨fun e => by rw [e, kb] at hs'; omega, fun e => by
        have := (g.2.1.1 s hs').2.2.1
        rw [e, kb] at this; omega⟩
      refine ⟨fun s hs' => ?_, fun s t hs' ht e => ?_⟩
      · rw [k1] at hs'
        obtain ⟨n1, n2⟩ := nb s hs'
        have := g.2.1.1 s hs'
        rw [r1 s n1, r1 s n1, r1 s n1]
        simp only [k1, l1, r1 _ n2]
        exact this
      · rw [k1] at hs' ht
        rw [r1 s (nb s hs').1, r1 s (nb s hs').1, r1 s (nb s hs').1, r1 t (nb t ht).1, r1 t (nb t ht).1, r1 t (nb t ht).1]
        exact g.2.1.2 s t hs' ht e
    have pm : ∀ i, i < 5 → ∃ j, j < 5 ∧ hs h1 x i = hs h x j ∧ j = (if i = 4 then 0 else i + 1) := fun i hi => by
      by_cases e : i = 4
      · exact ⟨0, by decide, by rw [e]; exact s4, by rw [if_pos e]⟩
      · exact ⟨i + 1, by omega, s1 i (by omega), by rw [if_neg e]⟩
    obtain ⟨g1, rx⟩ := g.re (h1 := h1) (fun c _ => ⟨k1 c, l1 c⟩) (fun c _ hn i => r1 c hn i) gs1
      (fun i hi => by obtain ⟨j, hj, e, -⟩ := pm i hi; rw [e, k1]; exact g.2.2.2.1 j hj)
      (fun i hi => by obtain ⟨j, hj, e, -⟩ := pm i hi; rw [e]; exact g.2.2.2.2.1 j hj)
      (fun i hi => by obtain ⟨j, hj, e, -⟩ := pm i hi; rw [e]; exact g.2.2.2.2.2.1 j hj)
      (fun i j hi hj hij => by
        obtain ⟨a, ha, ea, ia⟩ := pm i hi
        obtain ⟨b, hb, eb, ib⟩ := pm j hj
        rw [ea, eb]
        refine g.2.2.2.2.2.2.1 a b ha hb (fun e => hij ?_)
        rw [ia, ib] at e
        by_cases e1 : i = 4
        · by_cases e2 : j = 4
          · omega
          · rw [if_pos e1, if_neg e2] at e; omega
        · by_cases e2 : j = 4
          · rw [if_neg e1, if_pos e2] at e; omega
          · rw [if_neg e1, if_neg e2] at e; omega)
    have f1 : FR h h1 := fun c hc => ⟨k1 c, l1 c, fun i => v1 c i (fun e => by rw [e, kx] at hc; unfold im at hc; omega), fun i => r1 c (fun e => by rw [e, kb] at hc; unfold im at hc; omega) i⟩
    have st : ∀ s ρ', StR h s ρ' → StR h1 s ρ' := fun s ρ' S' => by
      obtain ⟨⟨a1, -⟩, ⟨a3, -⟩, a5, -⟩ := g.2.1.1 s S'.1
      have nb : ∀ c m : Nat, hK h c = m → m ≠ 23 → c ≠ hR h x 2 := fun c m a b e => b (by rw [← a, e, kb])
      have nxx : ∀ c m : Nat, hK h c = m → m ≠ 7 → ∀ i, c = x → i ≠ 3 := fun c m a b i e => absurd (by rw [← a, e, kx]) b
      have s6 := S'.1
      exact S'.keep g.2.1 f1 (by rw [k1]; exact s6) (fun i => v1 s i (nxx s 6 s6 (by decide) i)) (r1 s (nb _ 6 s6 (by decide))) (fun i => v1 _ i (nxx _ 35 a1 (by decide) i)) (fun i => v1 _ i (nxx _ 36 a3 (by decide) i)) (r1 _ (nb _ 22 a5 (by decide)))
    have u1 : ∀ c, U h x c → U h1 x c := fun c u => by
      refine ⟨by rw [rx]; exact u.1, fun i hi => ?_⟩
      obtain ⟨j, hj, e, -⟩ := pm i hi
      rw [e]
      intro h0'
      have k6 := (g.2.2.2.1 j hj).resolve_left h0'
      have n1 : hs h x j ≠ hR h x 2 := fun z => by rw [z, kb] at k6; omega
      rw [r1 _ n1, r1 _ n1, r1 _ n1]
      exact u.2 j hj h0'
    refine k_rec12 (ρ := ρ) g1 i1 (by decide) (by rw [rx]; exact st _ _ S) (fun h' g' f' t' i' s' n' r' => kk h' g' (f1.tr f') (fun c hc => ?_) (by rw [i']; rfl) (fun i hi => ?_) (fun i => (r' i).trans (rx i)))
    · have tc := t' c (by rw [k1]; exact hc)
      refine ⟨tc.1.trans (k1 c), tc.2.1.trans (l1 c), fun u => ?_⟩
      obtain ⟨w1, w2⟩ := tc.2.2 (u1 c u)
      exact ⟨fun i hi => (w1 i hi).trans (v1 c i hi), fun i => (w2 i).trans (r1 c u.1 i)⟩
    · have er : rk 5 = 5 := rfl
      rw [er] at hi ⊢
      by_cases e : i + 1 = 5
      · rw [if_pos e, show i = 4 by omega]; exact n'
      · rw [if_neg e, if_pos rfl]
        refine s' i hi (by omega) _ ?_
        rw [s1 i (by omega)]
        exact st _ _ (hH (i + 1) (by omega))
end CREC3
