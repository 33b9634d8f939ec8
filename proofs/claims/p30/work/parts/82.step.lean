/-! one call of both: they answer alike, and what held holds -/
section MFs
variable {h h1 : Hp}
theorem LayR.mf {y len : Nat} {tx : Nat → Int32} {meas : Int32} (L : LayR h y tx meas len) (f : MF h h1) : LayR h1 y tx meas len := by
  obtain ⟨fk, fl, fr, fi⟩ := f
  have e : ∀ c n : Nat, hK h c = n → n < 60 → n ≠ 8 → ∀ i, hI h1 c i = hI h c i := fun c n a b d => fi c (by unfold mk; omega)
  obtain ⟨l1, ⟨a1, a2, a3⟩, ⟨b1, b2, b3⟩, ⟨c1, c2, c3⟩, ⟨d1, d2, d3⟩, ⟨e1, e2, e3⟩, l5, l6, l7⟩ := L
  refine ⟨by rw [fk]; exact l1, ?_, ?_, ?_, ?_, ?_, by rw [e y 3 l1 (by decide) (by decide)]; exact l5, by rw [e y 3 l1 (by decide) (by decide)]; exact l6, by rw [e y 3 l1 (by decide) (by decide)]; exact l7⟩
  · rw [fr, fk, fl]; exact ⟨a1, a2, fun i hi => (e _ 25 a1 (by decide) (by decide) i).trans (a3 i hi)⟩
  · rw [fr, fk, fl]; exact ⟨b1, b2, fun i hi => (e _ 31 b1 (by decide) (by decide) i).trans (b3 i hi)⟩
  · rw [fr, fk, fl]; exact ⟨c1, c2, fun i hi => (e _ 32 c1 (by decide) (by decide) i).trans (c3 i hi)⟩
  · rw [fr, fk, fl]; exact ⟨d1, d2, fun i hi => (e _ 33 d1 (by decide) (by decide) i).trans (d3 i hi)⟩
  · rw [fr, fk, fl]; exact ⟨e1, e2, fun i hi => (e _ 34 e1 (by decide) (by decide) i).trans (e3 i hi)⟩
theorem JobN.mf {ρ : Row} {j c : Nat} (J : JobN h ρ j c) (f : MF h h1) : JobN h1 ρ j c := by
  have f' := f
  obtain ⟨fk, fl, fr, fi⟩ := f
  have e : ∀ c n : Nat, hK h c = n → n < 60 → n ≠ 8 → ∀ i, hI h1 c i = hI h c i := fun c n a b d => fi c (by unfold mk; omega)
  obtain ⟨⟨j1, ⟨o1, o2, o3, o4, o5⟩, j3, j4, ⟨t1, t2, t3⟩⟩, j6⟩ := J
  refine ⟨⟨by rw [fk]; exact j1, ?_, by rw [e c 2 j1 (by decide) (by decide)]; exact j3, by rw [e c 2 j1 (by decide) (by decide)]; exact j4, ?_⟩, j6⟩
  · rw [fr]
    refine ⟨by rw [fk]; exact o1, ?_, ?_, ?_, by rw [fr]; exact o5.mf f'⟩
    · rw [e _ 4 o1 (by decide) (by decide)]; exact o2
    · rw [e _ 4 o1 (by decide) (by decide)]; exact o3
    · rw [e _ 4 o1 (by decide) (by decide)]; exact o4
  · rw [fr]
    refine ⟨by rw [fk]; exact t1, by rw [fl]; exact t2, fun cc s a b => ?_⟩
    rw [fl, e _ 20 t1 (by decide) (by decide)]; exact t3 cc s a b
theorem StR.mf {s : Nat} {ρ : Row} (S : StR h s ρ) (g : GS h) (f : MF h h1) : StR h1 s ρ := by
  have f' := f
  obtain ⟨fk, fl, fr, fi⟩ := f
  obtain ⟨⟨a1, -⟩, ⟨a3, -⟩, -⟩ := g.1 s S.1
  have e : ∀ c n : Nat, hK h c = n → n < 60 → n ≠ 8 → ∀ i, hI h1 c i = hI h c i := fun c n a b d => fi c (by unfold mk; omega)
  obtain ⟨s1, s2, s3, s4, s5⟩ := S
  refine ⟨by rw [fk]; exact s1, fun i hi => by rw [e s 6 s1 (by decide) (by decide)]; exact s2 i hi, fun i hi => by rw [fr, e _ 35 a1 (by decide) (by decide)]; exact s3 i hi, fun i hi => by rw [fr, e _ 36 a3 (by decide) (by decide)]; exact s4 i hi, fun j hj hl => ?_⟩
  rw [fr, fr]
  exact ⟨(s5 j hj hl).1, (s5 j hj hl).2.mf f'⟩
theorem CR.mf {x k : Nat} {σ : Nat → Nat → Int32} (C : CR h x σ k) (f : MF h h1) : CR h1 x σ k := by
  have f' := f
  obtain ⟨fk, fl, fr, fi⟩ := f
  have e : ∀ c n : Nat, hK h c = n → n < 60 → n ≠ 8 → ∀ i, hI h1 c i = hI h c i := fun c n a b d => fi c (by unfold mk; omega)
  obtain ⟨g, ⟨v1, v2, ⟨v3, v4, v5⟩, v6, v7⟩, S⟩ := C
  have gs := g.2.1
  have hsE : ∀ i, hs h1 x i = hs h x i := fun i => by unfold hs; rw [fr, fr]
  refine ⟨?_, ⟨?_, fun i hi => ?_, ⟨?_, v4, v5⟩, fun i hi => by rw [hsE]; exact (v6 i hi).mf gs f', ?_⟩, by rw [fr]; exact S.mf gs f'⟩
  · have ex : ∀ n, xc h1 x 0 n = xc h x 0 n := fun n => by unfold xc; simp only [fr]
    obtain ⟨g1, g2, g3, g4, g5, g6, g7, g8, g9⟩ := g
    refine ⟨⟨fun n hn => by rw [ex, fk]; exact g1.1 n hn, fun n hn => by rw [ex, fl]; exact g1.2 n hn⟩, ?_, by rw [fr, fk, fl]; exact g3, fun i hi => by rw [hsE, fk]; exact g4 i hi, fun i hi => by rw [hsE, fr]; exact g5 i hi, fun i hi => by rw [hsE, fr]; exact g6 i hi, fun i j => by rw [hsE, hsE]; exact g7 i j, by rw [fr, fk]; exact g8, by rw [fr, fr]; exact g9⟩
    unfold GS
    simp only [fr, fk, fl]
    exact g2
  · rw [fr, e (hR h x 0) 1 (g.1.1 1 rfl) (by decide) (by decide)]; exact v1
  · rw [fr, fr, e (hR h (hR h x 0) 0) 21 (g.1.1 21 rfl) (by decide) (by decide)]; exact v2 i hi
  · rw [e x 7 g.kx (by decide) (by decide)]; exact v3
  · rw [fr]
    rcases v7 with z | ⟨z1, z2, z3⟩
    · exact Or.inl z
    · exact Or.inr ⟨z1, z2, z3.mf gs f'⟩
end MFs
theorem CR.idle {h : Hp} {x k : Nat} {σ σ' : Nat → Nat → Int32} (C : CR h x σ k) (i : Idle σ σ') : CR h x σ' k := by
  unfold CR HV at C ⊢
  have e1 : ∀ p, hrow σ' p = hrow σ p := fun p => by unfold hrow; rw [i 1 (by decide)]
  simp only [e1, i 0 (by decide), i 2 (by decide), i 3 (by decide), i 4 (by decide), i 5 (by decide), i 6 (by decide)]
  exact C
/-- what holds of every row that is kept -/
def WA (σ : Nat → Nat → Int32) (k t : Nat) : Prop := WF (σ 0) t ∧ (∀ i, i < k → WF (hrow σ i) t) ∧ (σ 4 0 = 0 ∨ WF (σ 3) t) ∧ ∃ ty, ty ≤ 60 ∧ σ 5 0 = nI ty
theorem WA.idle {σ σ' : Nat → Nat → Int32} {k t : Nat} (W : WA σ k t) (i : Idle σ σ') : WA σ' k (t + 1) := by
  obtain ⟨w1, w2, w3, w4⟩ := W
  have e1 : ∀ p, hrow σ' p = hrow σ p := fun p => by unfold hrow; rw [i 1 (by decide)]
  refine ⟨by rw [i 0 (by decide)]; exact w1.congr (by omega) (fun _ _ => rfl), fun p hp => by rw [e1]; exact (w2 p hp).congr (by omega) (fun _ _ => rfl), ?_, by rw [i 5 (by decide)]; exact w4⟩
  rw [i 4 (by decide), i 3 (by decide)]
  exact w3.imp id (fun w => w.congr (by omega) (fun _ _ => rfl))
theorem WA.act {σ σ' : Nat → Nat → Int32} {k t : Nat} {P : Row → Prop} (W : WA σ k t) (hP : ∀ ρ', P ρ' → WF ρ' (t + 1)) (hk : k ≤ 5) (a : Act σ k P σ') : WA σ' (rk k) (t + 1) := by
  obtain ⟨w1, w2, w3, w4⟩ := W
  obtain ⟨p1, p2, p3, p4⟩ := a
  refine ⟨hP _ p1, fun p hp => ?_, ?_, by rw [p4 5 (by decide) (by decide)]; exact w4⟩
  · by_cases e : p + 1 = rk k
    · exact w1.congr (by omega) (fun y hy => by rw [show hrow σ' p y = σ' 1 (3475 * p + y) from rfl, p3 p hp y hy, if_pos e])
    · have hlt : p + (if k = 5 then 1 else 0) < k := by
        unfold rk at hp e
        by_cases e5 : k = 5
        · rw [if_pos e5] at hp e ⊢; omega
        · rw [if_neg e5] at hp e ⊢; omega
      exact (w2 _ hlt).congr (by omega) (fun y hy => by rw [show hrow σ' p y = σ' 1 (3475 * p + y) from rfl, p3 p hp y hy, if_neg e]; rfl)
  · rw [p4 4 (by decide) (by decide), p4 3 (by decide) (by decide)]
    exact w3.imp id (fun w => w.congr (by omega) (fun _ _ => rfl))
section STEP
variable {h : Hp} {x m t k : Nat} {σ : Nat → Nat → Int32}
end STEP
