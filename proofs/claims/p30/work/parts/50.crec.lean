/-! the class records its state -/
def hs (h : Hp) (x i : Nat) : Nat := hR h (hR h x 2) i
def HS (h : Hp) (x : Nat) : Prop :=
  XS h x ∧ GS h ∧ (hK h (hR h x 2) = 23 ∧ hL h (hR h x 2) = 5) ∧ (∀ i, i < 5 → hs h x i = 0 ∨ hK h (hs h x i) = 6) ∧ (∀ i, i < 5 → hs h x i ≠ hR h x 1) ∧ (∀ i, i < 5 → hs h x i ≠ 0 → hs h x i ≠ hR h x 4) ∧
  (∀ i j, i < 5 → j < 5 → i ≠ j → hs h x i ≠ 0 → hs h x i ≠ hs h x j) ∧ (hR h x 4 = 0 ∨ hK h (hR h x 4) = 6) ∧ hR h x 4 ≠ hR h x 1
/-- no part of the history -/
def U (h : Hp) (x c : Nat) : Prop := c ≠ hR h x 2 ∧ ∀ i, i < 5 → hs h x i ≠ 0 → c ≠ hs h x i ∧ c ≠ hR h (hs h x i) 0 ∧ c ≠ hR h (hs h x i) 1 ∧ c ≠ hR h (hs h x i) 2
/-- what is no part of the history stays -/
def Qt (h : Hp) (x : Nat) (h' : Hp) : Prop := ∀ c, hK h c ≠ 0 → hK h' c = hK h c ∧ hL h' c = hL h c ∧ (U h x c → (∀ i, (c = x → i ≠ 3) → hI h' c i = hI h c i) ∧ ∀ i, hR h' c i = hR h c i)
section CREC
variable {h : Hp} {x : Nat}
theorem HS.kx (g : HS h x) : hK h x = 7 := g.1.1 7 rfl
theorem HS.kn (g : HS h x) : hK h (hR h x 1) = 6 := g.1.1 6 rfl
theorem HS.uk (g : HS h x) {c : Nat} (hc : hK h c ≠ 23 ∧ hK h c ≠ 6 ∧ hK h c ≠ 35 ∧ hK h c ≠ 36 ∧ hK h c ≠ 22) : U h x c := by
  obtain ⟨c1, c2, c3, c4, c5⟩ := hc
  refine ⟨fun e => c1 (by rw [e]; exact g.2.2.1.1), fun i hi hn => ?_⟩
  have k6 := (g.2.2.2.1 i hi).resolve_left hn
  obtain ⟨⟨a1, -⟩, ⟨a3, -⟩, a5, -⟩ := g.2.1.1 _ k6
  exact ⟨fun e => c2 (by rw [e]; exact k6), fun e => c3 (by rw [e]; exact a1), fun e => c4 (by rw [e]; exact a3), fun e => c5 (by rw [e]; exact a5)⟩
theorem HS.us (g : HS h x) {s : Nat} (hs6 : hK h s = 6) (hn : ∀ i, i < 5 → hs h x i ≠ 0 → hs h x i ≠ s) : U h x s ∧ U h x (hR h s 0) ∧ U h x (hR h s 1) ∧ U h x (hR h s 2) := by
  obtain ⟨⟨s1, -⟩, ⟨s3, -⟩, s5, -⟩ := g.2.1.1 s hs6
  have k23 := g.2.2.1.1
  have part : ∀ i, i < 5 → hs h x i ≠ 0 → hK h (hs h x i) = 6 ∧ hK h (hR h (hs h x i) 0) = 35 ∧ hK h (hR h (hs h x i) 1) = 36 ∧ hK h (hR h (hs h x i) 2) = 22 ∧ hR h s 0 ≠ hR h (hs h x i) 0 ∧ hR h s 1 ≠ hR h (hs h x i) 1 ∧ hR h s 2 ≠ hR h (hs h x i) 2 := fun i hi h0 => by
    have k6 := (g.2.2.2.1 i hi).resolve_left h0
    obtain ⟨⟨a1, -⟩, ⟨a3, -⟩, a5, -⟩ := g.2.1.1 _ k6
    obtain ⟨d0, d1, d2⟩ := g.2.1.2 s _ hs6 k6 (fun e => hn i hi h0 e.symm)
    exact ⟨k6, a1, a3, a5, d0, d1, d2⟩
  have ne : ∀ c d m n : Nat, hK h c = m → hK h d = n → m ≠ n → c ≠ d := fun c d m n a b e z => e (by rw [← a, ← b, z])
  refine ⟨⟨ne _ _ 6 23 hs6 k23 (by decide), fun i hi h0 => ?_⟩, ⟨ne _ _ 35 23 s1 k23 (by decide), fun i hi h0 => ?_⟩, ⟨ne _ _ 36 23 s3 k23 (by decide), fun i hi h0 => ?_⟩, ⟨ne _ _ 22 23 s5 k23 (by decide), fun i hi h0 => ?_⟩⟩ <;> obtain ⟨p1, p2, p3, p4, p5, p6, p7⟩ := part i hi h0
  · exact ⟨fun e => hn i hi h0 e.symm, ne _ _ 6 35 hs6 p2 (by decide), ne _ _ 6 36 hs6 p3 (by decide), ne _ _ 6 22 hs6 p4 (by decide)⟩
  · exact ⟨ne _ _ 35 6 s1 p1 (by decide), p5, ne _ _ 35 36 s1 p3 (by decide), ne _ _ 35 22 s1 p4 (by decide)⟩
  · exact ⟨ne _ _ 36 6 s3 p1 (by decide), ne _ _ 36 35 s3 p2 (by decide), p6, ne _ _ 36 22 s3 p4 (by decide)⟩
  · exact ⟨ne _ _ 22 6 s5 p1 (by decide), ne _ _ 22 35 s5 p2 (by decide), ne _ _ 22 36 s5 p3 (by decide), p7⟩
theorem HS.un (g : HS h x) : U h x (hR h x 1) ∧ U h x (hR h (hR h x 1) 0) ∧ U h x (hR h (hR h x 1) 1) ∧ U h x (hR h (hR h x 1) 2) := g.us g.kn (fun i hi _ => g.2.2.2.2.1 i hi)
theorem HS.up4 (g : HS h x) (h4 : hR h x 4 ≠ 0) : U h x (hR h x 4) ∧ U h x (hR h (hR h x 4) 0) ∧ U h x (hR h (hR h x 4) 1) ∧ U h x (hR h (hR h x 4) 2) := g.us (g.2.2.2.2.2.2.2.1.resolve_left h4) g.2.2.2.2.2.1
theorem HS.ux (g : HS h x) : U h x x := g.uk (by rw [g.kx]; decide)
theorem StR.qt {h' : Hp} {s : Nat} {ρ : Row} (S : StR h s ρ) (g : HS h x) (t : Qt h x h') (f : FR h h') (u : U h x s ∧ U h x (hR h s 0) ∧ U h x (hR h s 1) ∧ U h x (hR h s 2)) : StR h' s ρ := by
  obtain ⟨⟨a1, -⟩, ⟨a3, -⟩, a5, -⟩ := g.2.1.1 s S.1
  have s6 := S.1
  have kx := g.kx
  have t1 := t s (by rw [s6]; decide)
  have t2 := (t (hR h s 0) (by rw [a1]; decide)).2.2 u.2.1
  have t3 := (t (hR h s 1) (by rw [a3]; decide)).2.2 u.2.2.1
  have t4 := (t (hR h s 2) (by rw [a5]; decide)).2.2 u.2.2.2
  refine S.keep g.2.1 f (t1.1.trans s6) (fun i => (t1.2.2 u.1).1 i (fun e => ?_)) (t1.2.2 u.1).2 (fun i => t2.1 i (fun e => ?_)) (fun i => t3.1 i (fun e => ?_)) t4.2
  · rw [e, kx] at s6; omega
  · rw [e, kx] at a1; omega
  · rw [e, kx] at a3; omega
/-- the slot k holds a state: the present one is copied into it -/
theorem k_rec60 {K : Hp → Prop} {k : Nat} {ρ : Row} (g : HS h x) (hk : hI h x 3 = nI k) (k5 : k < 5) (h0 : hs h x k ≠ 0) (S : StR h (hR h x 1) ρ)
    (kk : ∀ h', HS h' x → FR h h' → Qt h x h' → hI h' x 3 = nI (k + 1) → (∀ i, i < 5 → i ≠ k → ∀ ρ', StR h (hs h x i) ρ' → StR h' (hs h' x i) ρ') → StR h' (hs h' x k) ρ → (∀ i, hR h' x i = hR h x i) → K h') : V_X6_recordState_60 K x h := by
  have kx := g.kx
  have kn := g.kn
  have ka := (g.2.2.2.1 k k5).resolve_left h0
  have gs := g.2.1
  have hna : hs h x k ≠ hR h x 1 := g.2.2.2.2.1 k k5
  unfold V_X6_recordState_60
  rw [hk, ix_nI (by omega), show hR h (hR h x 2) k = hs h x k from rfl]
  refine ⟨kx, kx, g.2.2.1.1, by rw [g.2.2.1.2]; exact vin k5 (by decide), kx, ka, k_copyFrom gs ka kn hna (fun h1 p => ?_)⟩
  have f1 : FR h h1 := p.fr gs ka
  obtain ⟨⟨a1, -⟩, ⟨a3, -⟩, a5, -⟩ := gs.1 _ ka
  have p' := p
  obtain ⟨p1, p2, p3, p4, -⟩ := p'
  have x0 : x ≠ hs h x k := fun e => by rw [← e, kx] at ka; omega
  have x1 : x ≠ hR h (hs h x k) 0 := fun e => by rw [← e, kx] at a1; omega
  have x2 : x ≠ hR h (hs h x k) 1 := fun e => by rw [← e, kx] at a3; omega
  have x3 : x ≠ hR h (hs h x k) 2 := fun e => by rw [← e, kx] at a5; omega
  have y3 : hR h x 2 ≠ hR h (hs h x k) 2 := fun e => by have := g.2.2.1.1; rw [e, a5] at this; omega
  have rx : ∀ i, hR h1 x i = hR h x i := p4 x x3
  refine ⟨by rw [p1]; exact kx, by rw [p1]; exact kx, fun h2 e2 => ?_⟩
  rw [p3 x x0 x1 x2, hk, nI_1] at e2
  have k2 : ∀ c, hK h2 c = hK h c := fun c => by rw [e2]; exact p1 c
  have l2 : ∀ c, hL h2 c = hL h c := fun c => by rw [e2]; exact p2 c
  have r2 : ∀ c i, hR h2 c i = hR h1 c i := fun c i => by rw [e2]; rfl
  have v2 : ∀ c i, (c = x → i ≠ 3) → hI h2 c i = hI h1 c i := fun c i hc => by rw [e2, hI_sI, if_neg (fun (z : c = x ∧ i = 3) => hc z.1 z.2)]
  have hsE : ∀ i, hs h2 x i = hs h x i := fun i => by unfold hs; rw [r2, r2, rx, p4 _ y3]
  have f2 : FR h h2 := by rw [e2]; exact f1.i (by rw [kx]; unfold im; omega)
  have gs1 := p.gs gs ka kn
  have gs2 : GS h2 := by
    refine ⟨fun s hs' => ?_, fun s t hs' ht e => ?_⟩
    · rw [k2, ← p1] at hs'
      have := gs1.1 s hs'
      simp only [r2, show ∀ c, hK h2 c = hK h1 c from fun c => (k2 c).trans (p1 c).symm, show ∀ c, hL h2 c = hL h1 c from fun c => (l2 c).trans (p2 c).symm]
      exact this
    · rw [k2, ← p1] at hs' ht
      simp only [r2]
      exact gs1.2 s t hs' ht e
  have st : ∀ s ρ', StR h1 s ρ' → StR h2 s ρ' := fun s ρ' S1 => by
    have q6 : hK h s = 6 := by rw [← p1]; exact S1.1
    obtain ⟨⟨b1, -⟩, ⟨b3, -⟩, b5, -⟩ := gs1.1 s S1.1
    rw [p1] at b1 b3 b5
    refine S1.keep gs1 (by rw [e2]; exact (FR.rf h1).i (by rw [p1, kx]; unfold im; omega)) (by rw [k2]; exact q6) (fun i => v2 s i (fun e => ?_)) (fun i => r2 s i) (fun i => v2 _ i (fun e => ?_)) (fun i => v2 _ i (fun e => ?_)) (fun i => r2 _ i)
    · rw [e, kx] at q6; omega
    · rw [e, kx] at b1; omega
    · rw [e, kx] at b3; omega
  have rx2 : ∀ i, hR h2 x i = hR h x i := fun i => by rw [r2, rx]
  have uq : ∀ c, U h x c → c ≠ hs h x k ∧ c ≠ hR h (hs h x k) 0 ∧ c ≠ hR h (hs h x k) 1 ∧ c ≠ hR h (hs h x k) 2 := fun c u => u.2 k k5 h0
  refine kk h2 ⟨?_, gs2, ?_, ?_, ?_, ?_, ?_, ?_, ?_⟩ f2 (fun c hc => ⟨k2 c, l2 c, fun u => ⟨fun i hi => ?_, fun i => ?_⟩⟩) (by rw [e2, hI_sI, if_pos ⟨rfl, rfl⟩]) (fun i hi hik ρ' S' => ?_) ?_ rx2
  · have d0 := g.1.1 1 rfl
    have r0 : ∀ i, hR h2 (hR h x 0) i = hR h (hR h x 0) i := fun i => by rw [r2]; exact p4 _ (fun e => by rw [show xc h x 0 1 = hR h x 0 from rfl, e, a5] at d0; omega) i
    have r1 : ∀ i, hR h2 (hR h x 1) i = hR h (hR h x 1) i := fun i => by rw [r2]; exact p4 _ (fun e => by rw [e, a5] at kn; omega) i
    have ex : ∀ k', xk k' = true → xc h2 x 0 k' = xc h x 0 k' := fun k' hk' => by
      unfold xk at hk'
      simp only [Bool.or_eq_true, beq_iff_eq] at hk'
      rcases hk' with ((((((((e | e) | e) | e) | e) | e) | e) | e) | e) | e <;> subst e <;> simp only [xc, rx2, r0, r1]
    refine ⟨fun k' hk' => by rw [ex k' hk', k2]; exact g.1.1 k' hk', fun k' hk' => ?_⟩
    rw [ex k' (by rcases hk' with z | z | z | z | z | z <;> subst z <;> rfl), l2]; exact g.1.2 k' hk'
  · rw [rx2, k2, l2]; exact g.2.2.1
  · intro i hi; rw [hsE, k2]; exact g.2.2.2.1 i hi
  · intro i hi; rw [hsE, rx2]; exact g.2.2.2.2.1 i hi
  · intro i hi; rw [hsE, rx2]; exact g.2.2.2.2.2.1 i hi
  · intro i j; rw [hsE, hsE]; exact g.2.2.2.2.2.2.1 i j
  · rw [rx2, k2]; exact g.2.2.2.2.2.2.2.1
  · rw [rx2, rx2]; exact g.2.2.2.2.2.2.2.2
  · rw [v2 c i hi]
    obtain ⟨q1, q2, q3, q4⟩ := uq c u
    exact p3 c q1 q2 q3 i
  · rw [r2]
    exact p4 c (uq c u).2.2.2 i
  · rw [hsE]
    refine st _ _ (p.off gs ka (fun e => ?_) S')
    have hi0 : hs h x i ≠ 0 := fun z => h0 (by rw [← e, z])
    exact g.2.2.2.2.2.2.1 i k hi k5 hik hi0 e
  · rw [hsE]
    exact st _ _ (p.to gs ka hna S)
end CREC
