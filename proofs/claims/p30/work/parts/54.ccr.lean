/-! the class's object holds what the reference's holds -/
def hrow (σ : Nat → Nat → Int32) (i : Nat) : Row := fun y => σ 1 (3475 * i + y)
def HV (h : Hp) (x : Nat) (σ : Nat → Nat → Int32) (k : Nat) : Prop :=
  hI h (hR h x 0) 1 = σ 5 0 ∧ (∀ i, i < 60 → hI h (hR h (hR h x 0) 0) i = σ 6 i) ∧ (hI h x 3 = nI k ∧ σ 2 0 = nI k ∧ k ≤ 5) ∧ (∀ i, i < k → StR h (hs h x i) (hrow σ i)) ∧ ((hR h x 4 = 0 ∧ σ 4 0 = 0) ∨ (hR h x 4 ≠ 0 ∧ σ 4 0 = 1 ∧ StR h (hR h x 4) (σ 3)))
def CR (h : Hp) (x : Nat) (σ : Nat → Nat → Int32) (k : Nat) : Prop := HS h x ∧ HV h x σ k ∧ StR h (hR h x 1) (σ 0)
/-- what the class's walk must come to -/
def OC (h : Hp) (x : Nat) (σ : Nat → Nat → Int32) (k : Nat) (K : Int32 → Hp → Prop) (o : Ans) : Prop :=
  ∀ h', FR h h' → (match o.2 with
    | none => CR h' x σ k
    | some P => ∀ σ', Act σ k P σ' → CR h' x σ' (rk k)) → K o.1 h'
theorem OC.no {h h' : Hp} {x : Nat} {σ : Nat → Nat → Int32} {k : Nat} {K : Int32 → Hp → Prop} {r : Int32} (o : OC h x σ k K (no r)) (f : FR h h') (c : CR h' x σ k) : K r h' := o h' f c
theorem OC.did {h h' : Hp} {x : Nat} {σ : Nat → Nat → Int32} {k : Nat} {K : Int32 → Hp → Prop} {r : Int32} {P : Row → Prop} (o : OC h x σ k K (did r P)) (f : FR h h') (c : ∀ σ', Act σ k P σ' → CR h' x σ' (rk k)) : K r h' := o h' f c
section CCR
variable {h h' : Hp} {x : Nat}
theorem Mv.his (m : Mv h x h') (g : HS h x) : ∀ i, hs h' x i = hs h x i := fun i => by
  have k22 := (g.2.1.1 _ g.kn).2.2.1
  have k23 := g.2.2.1.1
  unfold hs
  rw [(m.cells g).1]
  exact (m.1 _ (by rw [k23]; decide)).2.2.2 (fun e => by rw [e, k22] at k23; omega) i
theorem Mv.hst (m : Mv h x h') (g : HS h x) : HS h' x := by
  obtain ⟨rx, rd, rn, ec, xs⟩ := m.cells g
  have k22 := (g.2.1.1 _ g.kn).2.2.1
  have k23 := g.2.2.1.1
  have nb : ∀ c n : Nat, hK h c = n → n ≠ 22 → c ≠ hR h (hR h x 1) 2 := fun c n a b e => b (by rw [← a, e, k22])
  have hsE := m.his g
  have rs : ∀ s, hK h s = 6 → ∀ i, hR h' s i = hR h s i := fun s hs6 => (m.1 s (by rw [hs6]; decide)).2.2.2 (nb s 6 hs6 (by decide))
  refine ⟨xs, ⟨fun s hs' => ?_, fun s t hs' ht e => ?_⟩, ?_, fun i hi => ?_, fun i hi => ?_, fun i hi => ?_, fun i j => ?_, ?_, ?_⟩
  · have s6 := m.2.2 s hs'
    obtain ⟨⟨a1, a2⟩, ⟨a3, a4⟩, a5, a6, a7⟩ := g.2.1.1 s s6
    have m0 := m.1 (hR h s 0) (by rw [a1]; decide)
    have m1 := m.1 (hR h s 1) (by rw [a3]; decide)
    have m2 := m.1 (hR h s 2) (by rw [a5]; decide)
    rw [rs s s6, rs s s6, rs s s6, m0.1, m0.2.1, m1.1, m1.2.1, m2.1, m2.2.1]
    refine ⟨⟨a1, a2⟩, ⟨a3, a4⟩, a5, a6, fun i hi => ?_⟩
    by_cases e : s = hR h x 1
    · rw [e]; exact m.2.1 i hi
    · rw [m2.2.2.2 (g.2.1.2 s _ s6 g.kn e).2.2]
      rcases a7 i hi with z | z
      · exact Or.inl z
      · exact Or.inr (by rw [(m.1 _ (by rw [z]; decide)).1]; exact z)
  · have s6 := m.2.2 s hs'
    have t6 := m.2.2 t ht
    rw [rs s s6, rs s s6, rs s s6, rs t t6, rs t t6, rs t t6]
    exact g.2.1.2 s t s6 t6 e
  · rw [rx, (m.1 _ (by rw [k23]; decide)).1, (m.1 _ (by rw [k23]; decide)).2.1]; exact g.2.2.1
  · rw [hsE]
    rcases g.2.2.2.1 i hi with z | z
    · exact Or.inl z
    · exact Or.inr (by rw [(m.1 _ (by rw [z]; decide)).1]; exact z)
  · rw [hsE, rx]; exact g.2.2.2.2.1 i hi
  · rw [hsE, rx]; exact g.2.2.2.2.2.1 i hi
  · rw [hsE, hsE]; exact g.2.2.2.2.2.2.1 i j
  · rw [rx]
    rcases g.2.2.2.2.2.2.2.1 with z | z
    · exact Or.inl z
    · exact Or.inr (by rw [(m.1 _ (by rw [z]; decide)).1]; exact z)
  · rw [rx, rx]; exact g.2.2.2.2.2.2.2.2
theorem Mv.st (m : Mv h x h') (g : HS h x) {s : Nat} {ρ : Row} (S : StR h s ρ) (hn : s ≠ hR h x 1) : StR h' s ρ := by
  have k22 := (g.2.1.1 _ g.kn).2.2.1
  have s6 := S.1
  obtain ⟨⟨a1, -⟩, ⟨a3, -⟩, a5, -⟩ := g.2.1.1 s s6
  obtain ⟨d0, d1, d2⟩ := g.2.1.2 s _ s6 g.kn hn
  have nb : ∀ c n : Nat, hK h c = n → n ≠ 22 → c ≠ hR h (hR h x 1) 2 := fun c n a b e => b (by rw [← a, e, k22])
  have ms := m.1 s (by rw [s6]; decide)
  have m0 := m.1 (hR h s 0) (by rw [a1]; decide)
  have m1 := m.1 (hR h s 1) (by rw [a3]; decide)
  have m2 := m.1 (hR h s 2) (by rw [a5]; decide)
  have off : ∀ c n, hK h c = n → c ≠ xc h x 0 n → ∀ k, mvk k → c ≠ xc h x 0 k := fun c n a b k hk e => by
    have := g.1.1 k (mvk_xk hk)
    rw [← e, a] at this
    exact b (by rw [this]; exact e)
  exact S.keep g.2.1 (m.fr g) (ms.1.trans s6) (ms.2.2.1 (off s 6 s6 hn)) (ms.2.2.2 (nb s 6 s6 (by decide))) (m0.2.2.1 (off _ 35 a1 d0)) (m1.2.2.1 (off _ 36 a3 d1)) (m2.2.2.2 d2)
/-- the values that no move touches -/
theorem Mv.hv (m : Mv h x h') (g : HS h x) : hI h' (hR h' x 0) 1 = hI h (hR h x 0) 1 ∧ (∀ i, hI h' (hR h' (hR h' x 0) 0) i = hI h (hR h (hR h x 0) 0) i) ∧ hI h' x 3 = hI h x 3 := by
  obtain ⟨rx, rd, -⟩ := m.cells g
  have one : ∀ n, xk n = true → ¬ mvk n → ∀ i, hI h' (xc h x 0 n) i = hI h (xc h x 0 n) i := fun n hn hm i => by
    refine (m.1 _ (by rw [g.1.1 n hn]; intro z; rw [z] at hn; cases hn)).2.2.1 (fun k hk e => ?_) i
    have := g.1.1 k (mvk_xk hk)
    rw [← e, g.1.1 n hn] at this
    exact hm (by rw [this]; exact hk)
  rw [rx, rd]
  exact ⟨one 1 rfl (by unfold mvk; omega) 1, one 21 rfl (by unfold mvk; omega), one 7 rfl (by unfold mvk; omega) 3⟩
theorem Qt.cells {σ : Nat → Nat → Int32} {k : Nat} (t : Qt h x h') (g : HS h x) (rx : ∀ i, hR h' x i = hR h x i) : ∀ n, xk n = true → xc h' x 0 n = xc h x 0 n ∧ (n ≠ 7 → ∀ i, hI h' (xc h x 0 n) i = hI h (xc h x 0 n) i) := by
  obtain ⟨u1, u2, u3, u4⟩ := g.un
  have kd := g.1.1 1 rfl
  have ud : U h x (hR h x 0) := g.uk (by rw [show hK h (hR h x 0) = 1 from kd]; decide)
  have r1 := ((t (hR h x 0) (by rw [show hK h (hR h x 0) = 1 from kd]; decide)).2.2 ud).2
  have r6 := ((t (hR h x 1) (by rw [g.kn]; decide)).2.2 u1).2
  intro n hn
  refine ⟨?_, fun h7 i => ?_⟩
  · unfold xk at hn
    simp only [Bool.or_eq_true, beq_iff_eq] at hn
    rcases hn with ((((((((e | e) | e) | e) | e) | e) | e) | e) | e) | e <;> subst e <;> simp only [xc, rx, r1, r6]
  · have kn := g.1.1 n hn
    have un : U h x (xc h x 0 n) := by
      by_cases e6 : n = 6 ∨ n = 35 ∨ n = 36
      · rcases e6 with e | e | e <;> subst e
        · exact u1
        · exact u2
        · exact u3
      · refine g.uk ?_
        rw [kn]
        unfold xk at hn
        simp only [Bool.or_eq_true, beq_iff_eq] at hn
        omega
    refine ((t _ (by rw [kn]; intro z; rw [z] at hn; cases hn)).2.2 un).1 i (fun e => ?_)
    rw [e, g.kx] at kn
    exact absurd kn.symm h7
/-- a recorded act -/
theorem k_act {σ : Nat → Nat → Int32} {k : Nat} {K : Hp → Prop} (C : CR h x σ k)
    (kk : ∀ h1, HS h1 x → FR h h1 → (∀ n, xk n = true → xc h1 x 0 n = xc h x 0 n ∧ (n ≠ 7 → ∀ i, hI h1 (xc h x 0 n) i = hI h (xc h x 0 n) i)) → StR h1 (hR h1 x 1) (σ 0) →
      (∀ h' P, Mv h1 x h' → (∀ ρ', P ρ' → StR h' (hR h1 x 1) ρ') → ∀ σ', Act σ k P σ' → CR h' x σ' (rk k)) → K h1) : V_X6_recordState x h K := by
  obtain ⟨g, ⟨v1, v2, ⟨v3, v4, v5⟩, v6, v7⟩, S⟩ := C
  refine k_record (ρ := σ 0) (hrow σ) g v3 v5 S v6 (fun h1 g1 f1 t1 i1 s1 r1 => ?_)
  have ce := t1.cells (σ := σ) (k := k) g r1
  have Sn : StR h1 (hR h1 x 1) (σ 0) := by rw [r1]; exact S.qt g t1 f1 g.un
  refine kk h1 g1 f1 ce Sn (fun h' P m hP σ' ha => ?_)
  obtain ⟨p1, p2, p3, p4⟩ := ha
  obtain ⟨w1, w2, w3⟩ := m.hv g1
  have g' := m.hst g1
  have rx' := (m.cells g1).1
  have hsE := m.his g1
  refine ⟨g', ⟨?_, fun i hi => ?_, ⟨by rw [w3]; exact i1, p2, ?_⟩, fun i hi => ?_, ?_⟩, by rw [rx']; exact hP _ p1⟩
  · rw [w1, p4 5 (by decide) (by decide), show hR h1 x 0 = hR h x 0 from r1 0]
    exact ((ce 1 rfl).2 (by decide) 1).trans v1
  · rw [w2, p4 6 (by decide) (by decide), show hR h1 (hR h1 x 0) 0 = hR h (hR h x 0) 0 from (ce 21 rfl).1]
    exact ((ce 21 rfl).2 (by decide) i).trans (v2 i hi)
  · unfold rk
    split <;> omega
  · rw [hsE]
    have hb : i < 5 := by
      have : rk k ≤ 5 := by unfold rk; split <;> omega
      omega
    refine (m.st g1 (s1 i hi) (g1.2.2.2.2.1 i hb)).congr (fun y hy => ?_)
    rw [show hrow σ' i y = σ' 1 (3475 * i + y) from rfl, p3 i hi y hy]
    by_cases e : i + 1 = rk k
    · rw [if_pos e, if_pos e]
    · rw [if_neg e, if_neg e]; rfl
  · rw [rx', r1, p4 3 (by decide) (by decide), p4 4 (by decide) (by decide)]
    rcases v7 with ⟨z1, z2⟩ | ⟨z1, z2, z3⟩
    · exact Or.inl ⟨z1, z2⟩
    · refine Or.inr ⟨z1, z2, m.st g1 (z3.qt g t1 f1 (g.up4 z1)) ?_⟩
      rw [r1]; exact g.2.2.2.2.2.2.2.2
end CCR
