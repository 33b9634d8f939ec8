/-! the class's calls: undo, keep, restore -/
section CHIS
variable {h h1 : Hp} {x a b : Nat} {σ : Nat → Nat → Int32} {k : Nat} {K : Int32 → Hp → Prop}
theorem Mv.cp (g : HS h x) (p : CpR h (hR h x 1) b h1) (hb : hK h b = 6) : Mv h x h1 := by
  obtain ⟨p1, p2, p3, p4, p5, p6, p7, p8⟩ := p
  refine ⟨fun c hc => ⟨p1 c, p2 c, fun z => p3 c (z 6 (by unfold mvk; omega)) (z 35 (by unfold mvk; omega)) (z 36 (by unfold mvk; omega)), p4 c⟩, fun i hi => ?_, fun c hc => by rw [← p1]; exact hc⟩
  rw [p8 i hi, p1]
  exact (g.2.1.1 b hb).2.2.2.2 i hi
theorem HS.cp (g : HS h x) (p : CpR h a b h1) (ha : hK h a = 6) (hb : hK h b = 6) : HS h1 x ∧ (∀ i, hR h1 x i = hR h x i) ∧ (∀ i, hs h1 x i = hs h x i) ∧ (∀ i, hR h1 (hR h x 0) i = hR h (hR h x 0) i) ∧ (∀ i, hI h1 x i = hI h x i) ∧ (∀ i, hI h1 (hR h x 0) i = hI h (hR h x 0) i) ∧ ∀ i, hI h1 (hR h (hR h x 0) 0) i = hI h (hR h (hR h x 0) 0) i := by
  have gs := p.gs g.2.1 ha hb
  obtain ⟨⟨a1, -⟩, ⟨a3, -⟩, a5, -⟩ := g.2.1.1 a ha
  obtain ⟨p1, p2, p3, p4, -⟩ := p
  have kx := g.kx
  have kn := g.kn
  have kd : hK h (hR h x 0) = 1 := g.1.1 1 rfl
  have kt : hK h (hR h (hR h x 0) 0) = 21 := g.1.1 21 rfl
  have n22 : ∀ c n : Nat, hK h c = n → n ≠ 22 → c ≠ hR h a 2 := fun c n y z e => z (by rw [← y, e, a5])
  have rx := p4 x (n22 x 7 kx (by decide))
  have r0 := p4 _ (n22 _ 1 kd (by decide))
  have r1 := p4 _ (n22 _ 6 kn (by decide))
  have k23 := g.2.2.1.1
  have rh := p4 _ (n22 _ 23 k23 (by decide))
  have hsE : ∀ i, hs h1 x i = hs h x i := fun i => by unfold hs; rw [rx, rh]
  have ex : ∀ n, xk n = true → xc h1 x 0 n = xc h x 0 n := fun n hn => by
    unfold xk at hn
    simp only [Bool.or_eq_true, beq_iff_eq] at hn
    rcases hn with ((((((((e | e) | e) | e) | e) | e) | e) | e) | e) | e <;> subst e <;> simp only [xc, rx, r0, r1]
  have vI : ∀ c n : Nat, hK h c = n → n ≠ 6 → n ≠ 35 → n ≠ 36 → ∀ i, hI h1 c i = hI h c i := fun c n y z1 z2 z3 => p3 c (fun e => z1 (by rw [← y, e, ha])) (fun e => z2 (by rw [← y, e, a1])) (fun e => z3 (by rw [← y, e, a3]))
  refine ⟨⟨⟨fun n hn => by rw [ex n hn, p1]; exact g.1.1 n hn, fun n hn => ?_⟩, gs, by rw [rx, p1, p2]; exact g.2.2.1, fun i hi => by rw [hsE, p1]; exact g.2.2.2.1 i hi, fun i hi => by rw [hsE, rx]; exact g.2.2.2.2.1 i hi, fun i hi => by rw [hsE, rx]; exact g.2.2.2.2.2.1 i hi, fun i j => by rw [hsE, hsE]; exact g.2.2.2.2.2.2.1 i j, by rw [rx, p1]; exact g.2.2.2.2.2.2.2.1, by rw [rx, rx]; exact g.2.2.2.2.2.2.2.2⟩, rx, hsE, r0, vI x 7 kx (by decide) (by decide) (by decide), vI _ 1 kd (by decide) (by decide) (by decide), vI _ 21 kt (by decide) (by decide) (by decide)⟩
  rw [ex n (by rcases hn with z | z | z | z | z | z <;> subst z <;> rfl), p2]; exact g.1.2 n hn
theorem StR.i3 {s : Nat} {ρ : Row} {v : Int32} (S : StR h s ρ) (g : HS h x) : StR (sI h x 3 v) s ρ := by
  have s6 := S.1
  obtain ⟨⟨a1, -⟩, ⟨a3, -⟩, a5, -⟩ := g.2.1.1 s s6
  have kx := g.kx
  have ne : ∀ c n : Nat, hK h c = n → n ≠ 7 → ∀ i, hI (sI h x 3 v) c i = hI h c i := fun c n y z i => by rw [hI_sI, if_neg (fun w => z (by rw [← y, w.1, kx]))]
  exact S.keep g.2.1 ((FR.rf h).i (by rw [kx]; unfold im; omega)) s6 (ne s 6 s6 (by decide)) (fun _ => rfl) (ne _ 35 a1 (by decide)) (ne _ 36 a3 (by decide)) (fun _ => rfl)
theorem k_undo (C : CR h x σ k) (z0 : hK h 0 = 0) (hz : k = 0 → K (-5) h)
    (kk : ∀ k1, k = k1 + 1 → ∀ h', FR h h' → (∀ σ', (∀ y, y < 3475 → σ' 0 y = σ 1 (3475 * k1 + y)) → σ' 2 0 = nI k1 → (∀ f, f ≠ 0 → f ≠ 2 → σ' f = σ f) → CR h' x σ' k1) → K (nI k1) h') : V_X6_undo x h K := by
  obtain ⟨g, ⟨v1, v2, ⟨v3, v4, v5⟩, v6, v7⟩, S⟩ := C
  have kx := g.kx
  have kn := g.kn
  obtain ⟨k23, l5⟩ := g.2.2.1
  unfold V_X6_undo V_X6_undo_29
  rw [v3]
  cases k with
  | zero => exact ⟨kx, fun _ => hz rfl, fun z => absurd (by decide) z⟩
  | succ k1 =>
    rw [nI_pred, l5, ix_nI (by omega), show hR h (hR h x 2) k1 = hs h x k1 from rfl, k23]
    have Sk := v6 k1 (by omega)
    have h0 : hs h x k1 ≠ 0 := fun e => by have := Sk.1; rw [e, z0] at this; omega
    refine ⟨kx, fun z => absurd z (cn0 (by omega)), fun _ => ⟨kx, rfl, fun z => ?_, fun _ => ⟨kx, rfl, vin (by omega) (by decide), fun _ => ⟨kx, kx, rfl, vin (by omega) (by decide), kn, ?_⟩, fun z => absurd z h0⟩⟩⟩
    · rw [nle (by decide) (by omega)] at z; omega
    · have hab : hR h x 1 ≠ hs h x k1 := (g.2.2.2.2.1 k1 (by omega)).symm
      refine k_copyFrom g.2.1 kn Sk.1 hab (fun h1 p => ?_)
      obtain ⟨g1, rx, hsE, r0, i0, i1, i2⟩ := g.cp p kn Sk.1
      have f1 : FR h h1 := p.fr g.2.1 kn
      refine ⟨g1.kx, fun h2 e2 => ?_⟩
      have g2 : HS h2 x := by rw [e2]; exact g1
      have st : ∀ s ρ, StR h1 s ρ → StR h2 s ρ := fun s ρ q => by rw [e2]; exact q.i3 g1
      have r2 : ∀ c i, hR h2 c i = hR h1 c i := fun c i => by rw [e2]; rfl
      have hs2 : ∀ i, hs h2 x i = hs h x i := fun i => by rw [← hsE]; unfold hs; rw [r2, r2]
      have v2' : ∀ c n : Nat, hK h c = n → n ≠ 7 → ∀ i, hI h2 c i = hI h1 c i := fun c n y z i => by rw [e2, hI_sI, if_neg (fun w => z (by rw [← y, w.1, kx]))]
      have x3 : hI h2 x 3 = nI k1 := by rw [e2, hI_sI, if_pos ⟨rfl, rfl⟩]
      refine ⟨g2.kx, ?_⟩
      rw [x3]
      have f2 : FR h h2 := by rw [e2]; exact f1.i (by rw [kx]; unfold im; omega)
      refine kk k1 rfl h2 f2 (fun σ' s0 s2 sf => ⟨g2, ⟨?_, fun i hi => ?_, ⟨x3, s2, by omega⟩, fun i hi => ?_, ?_⟩, ?_⟩)
      · rw [r2, rx, v2' (hR h x 0) 1 (g.1.1 1 rfl) (by decide), i1, sf 5 (by decide) (by decide)]; exact v1
      · rw [r2, r2, rx, r0, v2' (hR h (hR h x 0) 0) 21 (g.1.1 21 rfl) (by decide), i2, sf 6 (by decide) (by decide)]; exact v2 i hi
      · rw [hs2, show hrow σ' i = hrow σ i from by unfold hrow; rw [sf 1 (by decide) (by decide)]]
        exact st _ _ (p.off g.2.1 kn (g.2.2.2.2.1 i (by omega)) (v6 i (by omega)))
      · rw [r2, rx, sf 4 (by decide) (by decide), sf 3 (by decide) (by decide)]
        rcases v7 with z | ⟨z1, z2, z3⟩
        · exact Or.inl z
        · exact Or.inr ⟨z1, z2, st _ _ (p.off g.2.1 kn g.2.2.2.2.2.2.2.2 z3)⟩
      · rw [r2, rx]
        exact st _ _ ((p.to g.2.1 kn hab Sk).congr s0)
theorem k_restore (C : CR h x σ k) (hO : OC h x σ k K (sp_restore (σ 4 0) (σ 3))) : V_X6_restore x h K := by
  have v7 := C.2.1.2.2.2.2
  unfold sp_restore at hO
  refine ⟨C.n.1, fun z => ⟨C.n.1, ?_⟩, fun z => ?_⟩
  · rcases v7 with ⟨w, -⟩ | ⟨w1, w2, w3⟩
    · exact absurd w z
    · rw [w2, if_neg ne01] at hO
      refine k_act C (fun h1 g1 f1 ce S1 fin => ?_)
      obtain ⟨σ2, A2, -⟩ := act_ex σ k (σ 0)
      have C2 := fin h1 _ (Mv.rf g1) (fun ρ' hp => by subst hp; exact S1) σ2 A2
      have v72 := C2.2.1.2.2.2.2
      rw [A2.2.2.2 4 (by decide) (by decide), A2.2.2.2 3 (by decide) (by decide)] at v72
      rcases v72 with ⟨-, u⟩ | ⟨u1, u2, u3⟩
      · rw [w2] at u; exact absurd u ne01
      · have k4 := g1.2.2.2.2.2.2.2.1.resolve_left u1
        refine ⟨g1.kx, g1.kx, g1.kn, k_copyFrom g1.2.1 g1.kn k4 g1.2.2.2.2.2.2.2.2.symm (fun h2 p => ?_)⟩
        have m2 := Mv.cp g1 p k4
        obtain ⟨t1, t2, t3⟩ := m2.k7 g1
        have Sn := p.to g1.2.1 g1.kn g1.2.2.2.2.2.2.2.2.symm u3
        refine ⟨t1, by rw [t2]; exact t3, ?_⟩
        rw [t2, show hI h2 (hR h1 x 1) 4 = σ 3 1 from Sn.2.1 1 (by decide)]
        exact oc_fin hO ⟨f1.tr (m2.fr g1), fin h2 _ m2 (fun ρ' hp => Sn.congr hp)⟩
  · rcases v7 with ⟨-, w⟩ | ⟨w1, -, -⟩
    · rw [w, if_pos rfl] at hO
      exact hO.no (FR.rf h) C
    · exact absurd z w1
end CHIS
