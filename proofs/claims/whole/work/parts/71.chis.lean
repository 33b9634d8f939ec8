/-! the class's calls: undo, keep, restore -/
section CHIS
variable {h h1 : Hp} {x a b : Nat} {σ : Nat → Nat → Int32} {k : Nat} {K : Int32 → Hp → Prop}
theorem Mv.cp (g : HS h x) (p : CpR h (hR h x 1) b h1) (hb : hK h b = 6) : Mv h x h1 := by
  obtain ⟨p1, p2, p3, p4, p5, p6, p7, p8⟩ := p
  refine ⟨fun c hc => ⟨p1 c, p2 c, fun z => p3 c (z 6 (by unfold mvk; omega)) (z 35 (by unfold mvk; omega)) (z 36 (by unfold mvk; omega)), p4 c⟩, fun i hi => ?_, fun c hc => by rw [← p1]; exact hc⟩
  rw [p8 i hi, p1]
  exact (g.2.1.1 b hb).2.2.2.2 i hi
theorem HS.cp (g : HS h x) (p : CpR h a b h1) (ha : hK h a = 6) (hb : hK h b = 6) : HS h1 x ∧ (∀ i, hR h1 x i = hR h x i) ∧ (∀ i, hs h1 x i = hs h x i) ∧ (∀ i, hR h1 (hR h x 0) i = hR h (hR h x 0) i) ∧ (∀ i, hI h1 x i = hI h x i) ∧ (∀ i, hI h1 (hR h x 0) i = hI h (hR h x 0) i) ∧ ∀ i, hI h1 (hR h (hR h x 0) 0) i = hI h (hR h (hR h x 0) 0) i := by
  have gs := p.gs g.2.1 ha hb
  obtain ⟨⟨a1, -⟩, ⟨a3, -⟩, a5, -⟩ := g.2.1.1 a ha
  obtain ⟨p1, p2, p3, p4, -⟩ := p
  have kx := g.kx
  have kn := g.kn
  have kd : hK h (hR h x 0) = 1 := g.1.1 1 rfl
  have kt : hK h (hR h (hR h x 0) 0) = 21 := g.1.1 21 rfl
  have n22 : ∀ c n : Nat, hK h c = n → n ≠ 22 → c ≠ hR h a 2 := fun c n y z e => z (by rw [← y, e, a5])
  have rx := p4 x (n22 x 7 kx (by decide))
  have r0 := p4 _ (n22 _ 1 kd (by decide))
  have r1 := p4 _ (n22 _ 6 kn (by decide))
  have k23 := g.2.2.1.1
  have rh := p4 _ (n22 _ 23 k23 (by decide))
  have hsE : ∀ i, hs h1 x i = hs h x i := fun i => by unfold hs; rw [rx, rh]
  have ex : ∀ n, xk n = true → xc h1 x 0 n = xc h x 0 n := fun n hn => by
    unfold xk at hn
    simp only [Bool.or_eq_true, beq_iff_eq] at hn
    rcases hn with ((((((((e | e) | e) | e) | e) | e) | e) | e) | e) | e <;> subst e <;> simp only [xc, rx, r0, r1]
  have vI : ∀ c n : Nat, hK h c = n → n ≠ 6 → n ≠ 35 → n ≠ 36 → ∀ i, hI h1 c i = hI h c i := fun c n y z1 z2 z3 => p3 c (fun e => z1 (by rw [← y, e, ha])) (fun e => z2 (by rw [← y, e, a1])) (fun e => z3 (by rw [← y, e, a3]))
  refine ⟨⟨⟨fun n hn => by rw [ex n hn, p1]; exact g.1.1 n hn, fun n hn => ?_⟩, gs, by rw [rx, p1, p2]; exact g.2.2.1, fun i hi => by rw [hsE, p1]; exact g.2.2.2.1 i hi, fun i hi => by rw [hsE, rx]; exact g.2.2.2.2.1 i hi, fun i hi => by rw [hsE, rx]; exact g.2.2.2.2.2.1 i hi, fun i j => by rw [hsE, hsE]; exact g.2.2.2.2.2.2.1 i j, by rw [rx, p1]; exact g.2.2.2.2.2.2.2.1, by rw [rx, rx]; exact g.2.2.2.2.2.2.2.2⟩, rx, hsE, r0, vI x 7 kx (by decide) (by decide) (by decide), vI _ 1 kd (by decide) (by decide) (by decide), vI _ 21 kt (by decide) (by decide) (by decide)⟩
  rw [ex n (by rcases hn with z | z | z | z | z | z <;> subst z <;> rfl), p2]; exact g.1.2 n hn
theorem StR.i3 {s : Nat} {ρ : Row} {v : Int32} (S : StR h s ρ) (g : HS h x) : StR (sI h x 3 v) s ρ := by
  have s6 := S.1
  obtain ⟨⟨a1, -⟩, ⟨a3, -⟩, a5, -⟩ := g.2.1.1 s s6
  have kx := g.kx
  have ne : ∀ c n : Nat, hK h c = n → n ≠ 7 → ∀ i, hI (sI h x 3 v) c i = hI h c i := fun c n y z i => by rw [hI_sI, if_neg (fun w => z (by rw [← y, w.1, kx]))]
  exact S.keep g.2.1 ((FR.rf h).i (by rw [kx]; unfold im; omega)) s6 (ne s 6 s6 (by decide)) (fun _ => rfl) (ne _ 35 a1 (by decide)) (ne _ 36 a3 (by decide)) (fun _ => rfl)
theorem k_undo (C : CR h x σ k) (z0 : hK h 0 = 0) (hz : k = 0 → K (-5) h)
    (kk : ∀ k1, k = k1 + 1 → ∀ h', FR h h' → (∀ σ', (∀ y, y < 3475 → σ' 0 y = σ 1 (3475 * k1 + y)) → σ' 2 0 = nI k1 → (∀ f, f ≠ 0 → f ≠ 2 → σ' f = σ f) → CR h' x σ' k1) → K (nI k1) h') : V_X6_undo x h K := by
  obtain ⟨g, ⟨v1, v2, ⟨v3, v4, v5⟩, v6, v7⟩, S⟩ := C
  have kx := g.kx
  have kn := g.kn
  obtain ⟨k23, l5⟩ := g.2.2.1
  unfold V_X6_undo V_X6_undo_29
  rw [v3]
  cases k with
  | zero => exact ⟨kx, fun _ => hz rfl, fun z => absurd (by decide) z⟩
  | succ k1 =>
    rw [nI_pred, l5, ix_nI (by omega), show hR h (hR h x 2) k1 = hs h x k1 from rfl, k23]
    have Sk := v6 k1 (by omega)
    have h0 : hs h x k1 ≠ 0 := fun e => by have := Sk.1; rw [e, z0] at this; omega
    refine ⟨kx, fun z => absurd z (cn0 (by omega)), fun _ => ⟨kx, rfl, fun z => ?_, fun _ => ⟨kx, rfl, vin (by omega) (by decide), fun _ => ⟨kx, kx, rfl, vin (by omega) (by decide), kn, ?_⟩, fun z => absurd z h0⟩⟩⟩
    · rw [nle (by decide) (by omega)] at z; omega
    · have hab : hR h x 1 ≠ hs h x k1 := (g.2.2.2.2.1 k1 (by omega)).symm
      refine k_copyFrom g.2.1 kn Sk.1 hab (fun h1 p => ?_)
      obtain ⟨g1, rx, hsE, r0, i0, i1, i2⟩ := g.cp p kn Sk.1
      have f1 : FR h h1 := p.fr g.2.1 kn
      refine ⟨g1.kx, fun h2 e2 => ?_⟩
      have g2 : HS h2 x := by rw [e2]; exact g1
      have st : ∀ s ρ, StR h1 s ρ → StR h2 s ρ := fun s ρ q => by rw [e2]; exact q.i3 g1
      have r2 : ∀ c i, hR h2 c i = hR h1 c i := fun c i => by rw [e2]; rfl
      have hs2 : ∀ i, hs h2 x i = hs h x i := fun i => by rw [← hsE]; unfold hs; rw [r2, r2]
      have v2' : ∀ c n : Nat, hK h c = n → n ≠ 7 → ∀ i, hI h2 c i = hI h1 c i := fun c n y z i => by rw [e2, hI_sI, if_neg (fun w => z (by rw [← y, w.1, kx]))]
      have x3 : hI h2 x 3 = nI k1 := by rw [e2, hI_sI, if_pos ⟨rfl, rfl⟩]
      refine ⟨g2.kx, ?_⟩
      rw [x3]
      have f2 : FR h h2 := by rw [e2]; exact f1.i (by rw [kx]; unfold im; omega)
      refine kk k1 rfl h2 f2 (fun σ' s0 s2 sf => ⟨g2, ⟨?_, fun i hi => ?_, ⟨x3, s2, by omega⟩, fun i hi => ?_, ?_⟩, ?_⟩)
      · rw [r2, rx, v2' (hR h x 0) 1 (g.1.1 1 rfl) (by decide), i1, sf 5 (by decide) (by decide)]; exact v1
      · rw [r2, r2, rx, r0, v2' (hR h (hR h x 0) 0) 21 (g.1.1 21 rfl) (by decide), i2, sf 6 (by decide) (by decide)]; exact v2 i hi
      · rw [hs2, show hrow σ' i = hrow σ i from by unfold hrow; rw [sf 1 (by decide) (by decide)]]
        exact st _ _ (p.off g.2.1 kn (g.2.2.2.2.1 i (by omega)) (v6 i (by omega)))
      · rw [r2, rx, sf 4 (by decide) (by decide), sf 3 (by decide) (by decide)]
        rcases v7 with z | ⟨z1, z2, z3⟩
        · exact Or.inl z
        · exact Or.inr ⟨z1, z2, st _ _ (p.off g.2.1 kn g.2.2.2.2.2.2.2.2 z3)⟩
      · rw [r2, rx]
        exact st _ _ ((p.to g.2.1 kn hab Sk).congr s0)
theorem k_keep18 (g : HS h x) (h4 : hR h x 4 ≠ 0) (v1 : hI h (hR h x 0) 1 = σ 5 0) (v2 : ∀ i, i < 60 → hI h (hR h (hR h x 0) 0) i = σ 6 i) (v3 : hI h x 3 = nI k ∧ σ 2 0 = nI k ∧ k ≤ 5) (v6 : ∀ i, i < k → StR h (hs h x i) (hrow σ i)) (S : StR h (hR h x 1) (σ 0))
    (kk : ∀ h', FR h h' → (∀ σ', (∀ f, f ≠ 3 → f ≠ 4 → σ' f = σ f) → σ' 4 0 = 1 → (∀ y, y < 3475 → σ' 3 y = σ 0 y) → CR h' x σ' k) → K (σ 0 1) h') : V_X6_keep_18 K x h := by
  have kx := g.kx
  have kn := g.kn
  have k4 := g.2.2.2.2.2.2.2.1.resolve_left h4
  refine ⟨kx, kx, k4, k_copyFrom g.2.1 k4 kn g.2.2.2.2.2.2.2.2 (fun h1 p => ?_)⟩
  obtain ⟨g1, rx, hsE, r0, i0, i1, i2⟩ := g.cp p k4 kn
  have f1 : FR h h1 := p.fr g.2.1 k4
  have Sn := p.off g.2.1 k4 g.2.2.2.2.2.2.2.2.symm S
  refine ⟨g1.kx, g1.kn, ?_⟩
  rw [rx 1, show hI h1 (hR h x 1) 4 = σ 0 1 from Sn.2.1 1 (by decide)]
  refine kk h1 f1 (fun σ' sf s4 s3 => ⟨g1, ⟨?_, fun i hi => ?_, ⟨by rw [i0]; exact v3.1, by rw [sf 2 (by decide) (by decide)]; exact v3.2.1, v3.2.2⟩, fun i hi => ?_, ?_⟩, ?_⟩)
  · rw [rx, i1, sf 5 (by decide) (by decide)]; exact v1
  · rw [rx, r0, i2, sf 6 (by decide) (by decide)]; exact v2 i hi
  · rw [hsE, show hrow σ' i = hrow σ i from by unfold hrow; rw [sf 1 (by decide) (by decide)]]
    refine p.off g.2.1 k4 (fun e => ?_) (v6 i hi)
    exact g.2.2.2.2.2.1 i (by omega) (by rw [e]; exact h4) e
  · rw [rx]
    exact Or.inr ⟨h4, s4, (p.to g.2.1 k4 g.2.2.2.2.2.2.2.2 S).congr s3⟩
  · rw [rx, sf 0 (by decide) (by decide)]; exact Sn
theorem k_keep (C : CR h x σ k) (kk : ∀ h', FR h h' → (∀ σ', (∀ f, f ≠ 3 → f ≠ 4 → σ' f = σ f) → σ' 4 0 = 1 → (∀ y, y < 3475 → σ' 3 y = σ 0 y) → CR h' x σ' k) → K (σ 0 1) h') : V_X6_keep x h K := by
  obtain ⟨g, ⟨v1, v2, v3, v6, v7⟩, S⟩ := C
  have kx := g.kx
  refine ⟨kx, fun z => k_keep18 g z v1 v2 v3 v6 S kk, fun z q n1 z1 h1 e1 => ⟨n1, k_stInit g.2.1 n1 z1 e1 (fun h2 o2 kq g2 _ => ?_)⟩⟩
  have ox := o2 x (by rw [kx]; decide)
  refine ⟨ox.1.trans kx, fun h3 e3 => ?_⟩
  have k3 : ∀ c, hK h3 c = hK h2 c := fun c => by rw [e3]; rfl
  have l3 : ∀ c, hL h3 c = hL h2 c := fun c => by rw [e3]; rfl
  have v3' : ∀ c i, hI h3 c i = hI h2 c i := fun c i => by rw [e3]; rfl
  have r3 : ∀ c, c ≠ x → ∀ i, hR h3 c i = hR h2 c i := fun c hc i => by rw [e3, hR_sR, if_neg (fun w => hc w.1)]
  have rx : ∀ i, i ≠ 4 → hR h3 x i = hR h x i := fun i hi => by rw [e3, hR_sR, if_neg (fun w => hi w.2)]; exact ox.2.2.2 i
  have r4 : hR h3 x 4 = q := by rw [e3, hR_sR, if_pos ⟨rfl, rfl⟩]
  have kn := g.kn
  have kd : hK h (hR h x 0) = 1 := g.1.1 1 rfl
  have kt : hK h (hR h (hR h x 0) 0) = 21 := g.1.1 21 rfl
  obtain ⟨k23, l5⟩ := g.2.2.1
  have ne : ∀ c n : Nat, hK h c = n → n ≠ 7 → n ≠ 0 → (∀ i, hR h3 c i = hR h c i) ∧ (∀ i, hI h3 c i = hI h c i) ∧ hK h3 c = n ∧ hL h3 c = hL h c := fun c n y z w => by
    have oc := o2 c (by rw [y]; exact w)
    exact ⟨fun i => (r3 c (fun e => z (by rw [← y, e, kx])) i).trans (oc.2.2.2 i), fun i => (v3' c i).trans (oc.2.2.1 i), (k3 c).trans (oc.1.trans y), (l3 c).trans oc.2.1⟩
  have hsE : ∀ i, hs h3 x i = hs h x i := fun i => by unfold hs; rw [rx 2 (by decide), (ne _ 23 k23 (by decide) (by decide)).1]
  have ex : ∀ n, xk n = true → xc h3 x 0 n = xc h x 0 n := fun n hn => by
    unfold xk at hn
    simp only [Bool.or_eq_true, beq_iff_eq] at hn
    rcases hn with ((((((((e | e) | e) | e) | e) | e) | e) | e) | e) | e <;> subst e <;> simp only [xc, rx 0 (by decide), rx 1 (by decide), rx 5 (by decide), rx 6 (by decide), rx 7 (by decide), rx 8 (by decide), (ne _ 1 kd (by decide) (by decide)).1, (ne _ 6 kn (by decide) (by decide)).1]
  have nz : ∀ n, xk n = true → hK h (xc h x 0 n) ≠ 0 := fun n hn e => by rw [g.1.1 n hn] at e; rw [e] at hn; cases hn
  have s6x : ∀ s, hK h2 s = 6 → s ≠ x := fun s hs' e => by rw [e, ox.1, kx] at hs'; omega
  have gs3 : GS h3 := by
    refine ⟨fun s hs' => ?_, fun s t hs' ht e => ?_⟩
    · rw [k3] at hs'
      have := g2.1 s hs'
      rw [r3 s (s6x s hs'), r3 s (s6x s hs'), r3 s (s6x s hs')]
      simp only [k3, l3, r3 _ (show hR h2 s 2 ≠ x from fun e => by have q5 := this.2.2.1; rw [e, ox.1, kx] at q5; omega)]
      exact this
    · rw [k3] at hs' ht
      rw [r3 s (s6x s hs'), r3 s (s6x s hs'), r3 s (s6x s hs'), r3 t (s6x t ht), r3 t (s6x t ht), r3 t (s6x t ht)]
      exact g2.2 s t hs' ht e
  have oq : ∀ c, hK h c ≠ 0 → c ≠ q := fun c hc e => hc (by rw [e]; exact z1)
  have g3 : HS h3 x := by
    refine ⟨⟨fun n hn => by rw [ex n hn, k3, (o2 _ (nz n hn)).1]; exact g.1.1 n hn, fun n hn => ?_⟩, gs3, ?_, fun i hi => ?_, fun i hi => ?_, fun i hi => ?_, fun i j => by rw [hsE, hsE]; exact g.2.2.2.2.2.2.1 i j, ?_, ?_⟩
    · have hx : xk n = true := by rcases hn with z | z | z | z | z | z <;> subst z <;> rfl
      rw [ex n hx, l3, (o2 _ (nz n hx)).2.1]; exact g.1.2 n hn
    · obtain ⟨-, -, u3, u4⟩ := ne _ 23 k23 (by decide) (by decide)
      rw [rx 2 (by decide), u3, u4]; exact ⟨rfl, l5⟩
    · rw [hsE]
      rcases g.2.2.2.1 i hi with w | w
      · exact Or.inl w
      · exact Or.inr (ne _ 6 w (by decide) (by decide)).2.2.1
    · rw [hsE, rx 1 (by decide)]; exact g.2.2.2.2.1 i hi
    · rw [hsE, r4]
      intro w e
      rcases g.2.2.2.1 i hi with w' | w'
      · exact w w'
      · exact oq _ (by rw [w']; decide) e
    · rw [r4, k3]; exact Or.inr kq
    · rw [r4, rx 1 (by decide)]; exact (oq _ (by rw [kn]; decide)).symm
  have f3 : FR h h3 := by rw [e3]; exact o2.fr.r (by rw [kx]; unfold im; omega)
  have st : ∀ s ρ, StR h s ρ → StR h3 s ρ := fun s ρ S' => by
    have s6 := S'.1
    obtain ⟨⟨a1, -⟩, ⟨a3, -⟩, a5, -⟩ := g.2.1.1 s s6
    obtain ⟨u1, u2, u3, -⟩ := ne s 6 s6 (by decide) (by decide)
    exact S'.keep g.2.1 f3 u3 u2 u1 (ne _ 35 a1 (by decide) (by decide)).2.1 (ne _ 36 a3 (by decide) (by decide)).2.1 (ne _ 22 a5 (by decide) (by decide)).1
  refine k_keep18 (σ := σ) g3 (by rw [r4]; exact n1) ?_ (fun i hi => ?_) ⟨?_, v3.2⟩ (fun i hi => ?_) ?_ (fun h' f' c' => kk h' (f3.tr f') c')
  · rw [rx 0 (by decide), (ne _ 1 kd (by decide) (by decide)).2.1]; exact v1
  · rw [rx 0 (by decide), (ne _ 1 kd (by decide) (by decide)).1, (ne _ 21 kt (by decide) (by decide)).2.1]; exact v2 i hi
  · rw [v3', ox.2.2.1]; exact v3.1
  · rw [hsE]; exact st _ _ (v6 i hi)
  · rw [rx 1 (by decide)]; exact st _ _ S
theorem k_restore (C : CR h x σ k) (hO : OC h x σ k K (sp_restore (σ 4 0) (σ 3))) : V_X6_restore x h K := by
  have v7 := C.2.1.2.2.2.2
  unfold sp_restore at hO
  refine ⟨C.n.1, fun z => ⟨C.n.1, ?_⟩, fun z => ?_⟩
  · rcases v7 with ⟨w, -⟩ | ⟨w1, w2, w3⟩
    · exact absurd w z
    · rw [w2, if_neg ne01] at hO
      refine k_act C (fun h1 g1 f1 ce S1 fin => ?_)
      obtain ⟨σ2, A2, -⟩ := act_ex σ k (σ 0)
      have C2 := fin h1 _ (Mv.rf g1) (fun ρ' hp => by subst hp; exact S1) σ2 A2
      have v72 := C2.2.1.2.2.2.2
      rw [A2.2.2.2 4 (by decide) (by decide), A2.2.2.2 3 (by decide) (by decide)] at v72
      rcases v72 with ⟨-, u⟩ | ⟨u1, u2, u3⟩
      · rw [w2] at u; exact absurd u ne01
      · have k4 := g1.2.2.2.2.2.2.2.1.resolve_left u1
        refine ⟨g1.kx, g1.kx, g1.kn, k_copyFrom g1.2.1 g1.kn k4 g1.2.2.2.2.2.2.2.2.symm (fun h2 p => ?_)⟩
        have m2 := Mv.cp g1 p k4
        obtain ⟨t1, t2, t3⟩ := m2.k7 g1
        have Sn := p.to g1.2.1 g1.kn g1.2.2.2.2.2.2.2.2.symm u3
        refine ⟨t1, by rw [t2]; exact t3, ?_⟩
        rw [t2, show hI h2 (hR h1 x 1) 4 = σ 3 1 from Sn.2.1 1 (by decide)]
        exact oc_fin hO ⟨f1.tr (m2.fr g1), fin h2 _ m2 (fun ρ' hp => Sn.congr hp)⟩
  · rcases v7 with ⟨-, w⟩ | ⟨w1, -, -⟩
    · rw [w, if_pos rfl] at hO
      exact hO.no (FR.rf h) C
    · exact absurd z w1
end CHIS
