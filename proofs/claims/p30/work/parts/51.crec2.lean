/-! the class records its state: a slot is made, the oldest goes -/
section CREC2
variable {h : Hp} {x : Nat}
theorem HS.re (g : HS h x) {h1 : Hp} (k : ∀ c, hK h c ≠ 0 → hK h1 c = hK h c ∧ hL h1 c = hL h c) (r : ∀ c, hK h c ≠ 0 → c ≠ hR h x 2 → ∀ i, hR h1 c i = hR h c i) (gs : GS h1) (p1 : ∀ i, i < 5 → hs h1 x i = 0 ∨ hK h1 (hs h1 x i) = 6) (p2 : ∀ i, i < 5 → hs h1 x i ≠ hR h x 1) (p3 : ∀ i, i < 5 → hs h1 x i ≠ 0 → hs h1 x i ≠ hR h x 4)
    (p4 : ∀ i j, i < 5 → j < 5 → i ≠ j → hs h1 x i ≠ 0 → hs h1 x i ≠ hs h1 x j) : HS h1 x ∧ ∀ i, hR h1 x i = hR h x i := by
  have kx := g.kx
  have kn := g.kn
  have kd := g.1.1 1 rfl
  have kb := g.2.2.1.1
  have nb : ∀ c m : Nat, hK h c = m → m ≠ 23 → c ≠ hR h x 2 := fun c m a b e => b (by rw [← a, e, kb])
  have rx := r x (by rw [kx]; decide) (nb _ 7 kx (by decide))
  have r0 := r (hR h x 0) (by rw [show hK h (hR h x 0) = 1 from kd]; decide) (nb _ 1 kd (by decide))
  have r1 := r (hR h x 1) (by rw [kn]; decide) (nb _ 6 kn (by decide))
  have ex : ∀ k', xk k' = true → xc h1 x 0 k' = xc h x 0 k' := fun k' hk' => by
    unfold xk at hk'
    simp only [Bool.or_eq_true, beq_iff_eq] at hk'
    rcases hk' with ((((((((e | e) | e) | e) | e) | e) | e) | e) | e) | e <;> subst e <;> simp only [xc, rx, r0, r1]
  have nz : ∀ k', xk k' = true → hK h (xc h x 0 k') ≠ 0 := fun k' hk' e => by rw [g.1.1 k' hk'] at e; rw [e] at hk'; cases hk'
  refine ⟨⟨⟨fun k' hk' => by rw [ex k' hk', (k _ (nz k' hk')).1]; exact g.1.1 k' hk', fun k' hk' => ?_⟩, gs, ?_, p1, ?_, ?_, p4, ?_, ?_⟩, rx⟩
  · have hx : xk k' = true := by rcases hk' with z | z | z | z | z | z <;> subst z <;> rfl
    rw [ex k' hx, (k _ (nz k' hx)).2]; exact g.1.2 k' hk'
  · rw [rx, (k _ (by rw [kb]; decide)).1, (k _ (by rw [kb]; decide)).2]; exact g.2.2.1
  · rw [rx]; exact p2
  · rw [rx]; exact p3
  · rw [rx]
    rcases g.2.2.2.2.2.2.2.1 with e | e
    · exact Or.inl e
    · exact Or.inr (by rw [(k _ (by rw [e]; decide)).1]; exact e)
  · rw [rx, rx]; exact g.2.2.2.2.2.2.2.2
theorem k_rec12 {K : Hp → Prop} {k : Nat} {ρ : Row} (g : HS h x) (hk : hI h x 3 = nI k) (k5 : k < 5) (S : StR h (hR h x 1) ρ)
    (kk : ∀ h', HS h' x → FR h h' → Qt h x h' → hI h' x 3 = nI (k + 1) → (∀ i, i < 5 → i ≠ k → ∀ ρ', StR h (hs h x i) ρ' → StR h' (hs h' x i) ρ') → StR h' (hs h' x k) ρ → (∀ i, hR h' x i = hR h x i) → K h') : V_X6_recordState_12 K x h := by
  have kx := g.kx
  have kb := g.2.2.1.1
  unfold V_X6_recordState_12
  rw [hk, kb, g.2.2.1.2, ix_nI (by omega), show hR h (hR h x 2) k = hs h x k from rfl]
  refine ⟨kx, fun z => absurd z (cn0 (by omega)), fun _ => ⟨kx, kx, rfl, fun _ => ⟨kx, kx, rfl, vin k5 (by decide), fun h0 => k_rec60 g hk k5 h0 S kk, fun h0 => ⟨kx, kx, fun q hq q0 h1 e1 => ⟨hq, ?_⟩⟩⟩, fun z => absurd (nI_lt k5 (by decide)) z⟩⟩
  refine k_stInit g.2.1 hq q0 e1 (fun h2 o2 kq gs2 z2 => ?_)
  have hbx := (o2 _ (show hK h (hR h x 2) ≠ 0 by rw [kb]; decide))
  refine ⟨hbx.1.trans kb, by rw [hbx.2.1, g.2.2.1.2]; exact vin k5 (by decide), Or.inr kq, fun h3 e3 => ?_⟩
  have k3 : ∀ c, hK h3 c = hK h2 c := fun c => by rw [e3]; rfl
  have l3 : ∀ c, hL h3 c = hL h2 c := fun c => by rw [e3]; rfl
  have v3 : ∀ c i, hI h3 c i = hI h2 c i := fun c i => by rw [e3]; rfl
  have r3 : ∀ c, c ≠ hR h x 2 → ∀ i, hR h3 c i = hR h2 c i := fun c hc i => by rw [e3, hR_sR, if_neg (fun (z : c = hR h x 2 ∧ i = k) => hc z.1)]
  have nb2 : ∀ s, hK h2 s = 6 → s ≠ hR h x 2 ∧ hR h2 s 2 ≠ hR h x 2 := fun s hs' => ⟨fun e => by rw [e, hbx.1, kb] at hs'; omega, fun e => by
    have := (gs2.1 s hs').2.2.1
    rw [e, hbx.1, kb] at this; omega⟩
  have gs3 : GS h3 := by
    refine ⟨fun s hs' => ?_, fun s t hs' ht e => ?_⟩
    · rw [k3] at hs'
      obtain ⟨n1, n2⟩ := nb2 s hs'
      have := gs2.1 s hs'
      rw [r3 s n1, r3 s n1, r3 s n1]
      simp only [k3, l3, r3 _ n2]
      exact this
    · rw [k3] at hs' ht
      rw [r3 s (nb2 s hs').1, r3 s (nb2 s hs').1, r3 s (nb2 s hs').1, r3 t (nb2 t ht).1, r3 t (nb2 t ht).1, r3 t (nb2 t ht).1]
      exact gs2.2 s t hs' ht e
  have oq : ∀ c, hK h c ≠ 0 → c ≠ q := fun c hc e => hc (by rw [e]; exact q0)
  have rx3 : ∀ i, hR h3 x i = hR h x i := fun i => by rw [r3 x (fun e => by rw [← e, kx] at kb; omega)]; exact (o2 x (by rw [kx]; decide)).2.2.2 i
  have hs3 : ∀ i, hs h3 x i = if i = k then q else hs h x i := fun i => by
    unfold hs
    rw [rx3, e3, hR_sR]
    by_cases e : i = k
    · rw [if_pos ⟨rfl, e⟩, if_pos e]
    · rw [if_neg (fun (z : hR h x 2 = hR h x 2 ∧ i = k) => e z.2), if_neg e]; exact hbx.2.2.2 i
  have hso : ∀ i, i < 5 → hs h x i ≠ q := fun i hi e => by
    rcases g.2.2.2.1 i hi with z | z
    · exact hq (by rw [← e, z])
    · rw [e, q0] at z; omega
  obtain ⟨g3, -⟩ := g.re (h1 := h3) (fun c hc => ⟨(k3 c).trans (o2 c hc).1, (l3 c).trans (o2 c hc).2.1⟩) (fun c hc hn i => (r3 c hn i).trans ((o2 c hc).2.2.2 i)) gs3
    (fun i hi => by
      rw [hs3]
      by_cases e : i = k
      · rw [if_pos e, k3]; exact Or.inr kq
      · rw [if_neg e, k3]
        rcases g.2.2.2.1 i hi with z | z
        · exact Or.inl z
        · exact Or.inr (by rw [(o2 _ (by rw [z]; decide)).1]; exact z))
    (fun i hi => by
      rw [hs3]
      by_cases e : i = k
      · rw [if_pos e]; exact (oq _ (by rw [g.kn]; decide)).symm
      · rw [if_neg e]; exact g.2.2.2.2.1 i hi)
    (fun i hi => by
      rw [hs3]
      by_cases e : i = k
      · rw [if_pos e]
        intro _ z
        rcases g.2.2.2.2.2.2.2.1 with z4 | z4
        · exact hq (by rw [z, z4])
        · exact (oq _ (by rw [z4]; decide)) z.symm
      · rw [if_neg e]; exact g.2.2.2.2.2.1 i hi)
    (fun i j hi hj hij => by
      rw [hs3, hs3]
      by_cases e : i = k
      · rw [if_pos e, if_neg (show ¬ j = k by omega)]
        exact fun _ z => hso j hj z.symm
      · rw [if_neg e]
        by_cases e2 : j = k
        · rw [if_pos e2]; exact fun _ => hso i hi
        · rw [if_neg e2]; exact g.2.2.2.2.2.2.1 i j hi hj hij)
  have f3 : FR h h3 := by rw [e3]; exact o2.fr.r (by rw [kb]; unfold im; omega)
  have st : ∀ s ρ', StR h s ρ' → StR h3 s ρ' := fun s ρ' S' => by
    obtain ⟨⟨a1, -⟩, ⟨a3, -⟩, a5, -⟩ := g.2.1.1 s S'.1
    have nb : ∀ c m : Nat, hK h c = m → m ≠ 23 → c ≠ hR h x 2 := fun c m a b e => b (by rw [← a, e, kb])
    have s6 := S'.1
    have os := o2 s (by rw [s6]; decide)
    exact S'.keep g.2.1 f3 (by rw [k3, os.1]; exact s6) (fun i => (v3 s i).trans (os.2.2.1 i)) (fun i => (r3 s (nb _ 6 s6 (by decide)) i).trans (os.2.2.2 i)) (fun i => (v3 _ i).trans ((o2 _ (by rw [a1]; decide)).2.2.1 i)) (fun i => (v3 _ i).trans ((o2 _ (by rw [a3]; decide)).2.2.1 i)) (fun i => (r3 _ (nb _ 22 a5 (by decide)) i).trans ((o2 _ (by rw [a5]; decide)).2.2.2 i))
  have u3 : ∀ c, hK h c ≠ 0 → U h x c → U h3 x c := fun c hc u => by
    refine ⟨by rw [rx3]; exact u.1, fun i hi => ?_⟩
    rw [hs3]
    by_cases e : i = k
    · rw [if_pos e]
      have nq : q ≠ hR h x 2 := fun z => by rw [z, kb] at q0; omega
      rw [r3 q nq, r3 q nq, r3 q nq]
      exact fun _ => ⟨oq c hc, fun z => hc (by rw [z]; exact z2.1), fun z => hc (by rw [z]; exact z2.2.1), fun z => hc (by rw [z]; exact z2.2.2)⟩
    · rw [if_neg e]
      intro h0'
      have k6 := (g.2.2.2.1 i hi).resolve_left h0'
      have n1 : hs h x i ≠ hR h x 2 := fun z => by rw [z, kb] at k6; omega
      have o1 := o2 (hs h x i) (by rw [k6]; decide)
      rw [r3 _ n1, r3 _ n1, r3 _ n1, o1.2.2.2, o1.2.2.2, o1.2.2.2]
      exact u.2 i hi h0'
  refine k_rec60 (ρ := ρ) g3 (by rw [v3, (o2 x (by rw [kx]; decide)).2.2.1]; exact hk) k5 (by rw [hs3, if_pos rfl]; exact hq) (by rw [rx3]; exact st _ _ S) (fun h' g' f' t' i' s' n' r' => ?_)
  refine kk h' g' (f3.tr f') (fun c hc => ?_) i' (fun i hi hik ρ' S' => ?_) n' (fun i => (r' i).trans (rx3 i))
  · have oc := o2 c hc
    have tc := t' c (by rw [k3, oc.1]; exact hc)
    refine ⟨tc.1.trans ((k3 c).trans oc.1), tc.2.1.trans ((l3 c).trans oc.2.1), fun u => ?_⟩
    obtain ⟨w1, w2⟩ := tc.2.2 (u3 c hc u)
    exact ⟨fun i hi => (w1 i hi).trans ((v3 c i).trans (oc.2.2.1 i)), fun i => (w2 i).trans ((r3 c u.1 i).trans (oc.2.2.2 i))⟩
  · refine s' i hi hik ρ' ?_
    rw [hs3, if_neg hik]
    exact st _ _ S'
end CREC2
