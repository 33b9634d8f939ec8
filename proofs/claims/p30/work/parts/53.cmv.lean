/-! the class: the present state moves, all else stays -/
def mvk (k : Nat) : Prop := k = 6 ∨ k = 35 ∨ k = 36 ∨ k = 5 ∨ k = 37 ∨ k = 38 ∨ k = 39
def Mv (h : Hp) (x : Nat) (h' : Hp) : Prop :=
  (∀ c, hK h c ≠ 0 → hK h' c = hK h c ∧ hL h' c = hL h c ∧ ((∀ k, mvk k → c ≠ xc h x 0 k) → ∀ i, hI h' c i = hI h c i) ∧ (c ≠ hR h (hR h x 1) 2 → ∀ i, hR h' c i = hR h c i)) ∧
  (∀ i, i < 12 → hR h' (hR h (hR h x 1) 2) i = 0 ∨ hK h' (hR h' (hR h (hR h x 1) 2) i) = 2) ∧ ∀ c, hK h' c = 6 → hK h c = 6
theorem mvk_xk {k : Nat} (h : mvk k) : xk k = true := by
  unfold mvk at h
  rcases h with e | e | e | e | e | e | e <;> subst e <;> rfl
section CMV
variable {h h' : Hp} {x : Nat}
theorem Mv.rf (g : HS h x) : Mv h x h := ⟨fun _ _ => ⟨rfl, rfl, fun _ _ => rfl, fun _ _ => rfl⟩, (g.2.1.1 _ g.kn).2.2.2.2, fun _ e => e⟩
theorem Mv.fr (m : Mv h x h') (g : HS h x) : FR h h' := fun c hc => by
  have h0 : hK h c ≠ 0 := fun e => im0 (by rw [← e]; exact hc)
  obtain ⟨m1, m2, m3, m4⟩ := m.1 c h0
  refine ⟨m1, m2, m3 (fun k hk e => ?_), m4 (fun e => ?_)⟩
  · have := g.1.1 k (mvk_xk hk)
    rw [← e] at this
    rw [this] at hc
    exact xk_im (mvk_xk hk) hc
  · have := (g.2.1.1 _ g.kn).2.2.1
    rw [← e] at this
    rw [this] at hc
    unfold im at hc; omega
theorem Mv.n (m : Mv h x h') {q k n : Nat} (hq : hK h' q = 0) (hk : k ≠ 6) (g : HS h x) : Mv h x (nN h' q k n) := by
  obtain ⟨m1, m2, m3⟩ := m
  have k22 := (g.2.1.1 _ g.kn).2.2.1
  have nq : ∀ c, hK h c ≠ 0 → ¬ c = q := fun c hc e => hc (by rw [← (m1 c hc).1, e]; exact hq)
  refine ⟨fun c hc => ?_, fun i hi => ?_, fun c hc => ?_⟩
  · obtain ⟨a1, a2, a3, a4⟩ := m1 c hc
    exact ⟨by rw [hK_nN, if_neg (nq c hc), a1], by rw [hL_nN, if_neg (nq c hc), a2], fun z i => by rw [hI_nN, if_neg (nq c hc), a3 z], fun z i => by rw [hR_nN, if_neg (nq c hc), a4 z]⟩
  · rw [hR_nN, if_neg (nq _ (by rw [k22]; decide))]
    rcases m2 i hi with z | z
    · exact Or.inl z
    · exact Or.inr (by rw [hK_nN, if_neg (fun e => by rw [e, hq] at z; omega)]; exact z)
  · rw [hK_nN] at hc
    by_cases e : c = q
    · rw [if_pos e] at hc; exact absurd hc hk
    · rw [if_neg e] at hc; exact m3 c hc
theorem Mv.i (m : Mv h x h') {c i : Nat} {v : Int32} (hc : hK h c = 0) : Mv h x (sI h' c i v) := by
  obtain ⟨m1, m2, m3⟩ := m
  refine ⟨fun d hd => ?_, m2, m3⟩
  obtain ⟨a1, a2, a3, a4⟩ := m1 d hd
  exact ⟨a1, a2, fun z j => by rw [hI_sI, if_neg (fun (q : d = c ∧ j = i) => hd (by rw [q.1]; exact hc)), a3 z], a4⟩
theorem Mv.r (m : Mv h x h') {c i v : Nat} (hc : hK h c = 0) (g : HS h x) : Mv h x (sR h' c i v) := by
  obtain ⟨m1, m2, m3⟩ := m
  have k22 := (g.2.1.1 _ g.kn).2.2.1
  refine ⟨fun d hd => ?_, fun j hj => ?_, m3⟩
  · obtain ⟨a1, a2, a3, a4⟩ := m1 d hd
    exact ⟨a1, a2, a3, fun z j => by rw [hR_sR, if_neg (fun (q : d = c ∧ j = i) => hd (by rw [q.1]; exact hc)), a4 z]⟩
  · rw [hR_sR, if_neg (fun (q : hR h (hR h x 1) 2 = c ∧ j = i) => by have := q.1; rw [← this, k22] at hc; omega)]
    exact m2 j hj
/-- a job is put into the present state -/
theorem Mv.j (m : Mv h x h') {j c : Nat} (hc : hK h' c = 2) : Mv h x (sR h' (hR h (hR h x 1) 2) j c) := by
  obtain ⟨m1, m2, m3⟩ := m
  refine ⟨fun d hd => ?_, fun i hi => ?_, m3⟩
  · obtain ⟨a1, a2, a3, a4⟩ := m1 d hd
    exact ⟨a1, a2, a3, fun z i => by rw [hR_sR, if_neg (fun (q : d = hR h (hR h x 1) 2 ∧ i = j) => z q.1), a4 z]⟩
  · rw [hR_sR]
    by_cases e : i = j
    · rw [if_pos ⟨rfl, e⟩]; exact Or.inr hc
    · rw [if_neg (fun (q : _ = _ ∧ i = j) => e q.2)]; exact m2 i hi
theorem Mv.cells (m : Mv h x h') (g : HS h x) : (∀ i, hR h' x i = hR h x i) ∧ (∀ i, hR h' (hR h x 0) i = hR h (hR h x 0) i) ∧ (∀ i, hR h' (hR h x 1) i = hR h (hR h x 1) i) ∧ (∀ k, xk k = true → xc h' x 0 k = xc h x 0 k) ∧ XS h' x := by
  have k22 := (g.2.1.1 _ g.kn).2.2.1
  have kd := g.1.1 1 rfl
  have nb : ∀ c n : Nat, hK h c = n → n ≠ 22 → c ≠ hR h (hR h x 1) 2 := fun c n a b e => b (by rw [← a, e, k22])
  have r7 := (m.1 x (by rw [g.kx]; decide)).2.2.2 (nb x 7 g.kx (by decide))
  have r1 := (m.1 (hR h x 0) (by rw [show hK h (hR h x 0) = 1 from kd]; decide)).2.2.2 (nb _ 1 kd (by decide))
  have r6 := (m.1 (hR h x 1) (by rw [g.kn]; decide)).2.2.2 (nb _ 6 g.kn (by decide))
  have e : ∀ k, xk k = true → xc h' x 0 k = xc h x 0 k := fun k hk => by
    unfold xk at hk
    simp only [Bool.or_eq_true, beq_iff_eq] at hk
    rcases hk with ((((((((e | e) | e) | e) | e) | e) | e) | e) | e) | e <;> subst e <;> simp only [xc, r7, r1, r6]
  have nz : ∀ k, xk k = true → hK h (xc h x 0 k) ≠ 0 := fun k hk z => by rw [g.1.1 k hk] at z; rw [z] at hk; cases hk
  refine ⟨r7, r1, r6, e, fun k hk => ?_, fun k hk => ?_⟩
  · rw [e k hk, (m.1 _ (nz k hk)).1]; exact g.1.1 k hk
  · have hx : xk k = true := by rcases hk with z | z | z | z | z | z <;> subst z <;> rfl
    rw [e k hx, (m.1 _ (nz k hx)).2.1]; exact g.1.2 k hk
/-- the object's ints move -/
theorem Mv.xb (m : Mv h x h') (g : HS h x) {q : Nat} {φ φ0 : Nat → Nat → Int32} {h2 : Hp} (y0 : XB h' x q φ0 h') (y : XB h' x q φ h2) (e : ∀ k, k = 7 ∨ k = 1 ∨ k = 21 → φ k = φ0 k) (hq : hK h q = 0 ∨ φ 20 = φ0 20) : Mv h x h2 := by
  obtain ⟨m1, m2, m3⟩ := m
  obtain ⟨-, -, -, ec, -⟩ := Mv.cells ⟨m1, m2, m3⟩ g
  refine ⟨fun c hc => ?_, fun i hi => ?_, fun c hc => m3 c (by rw [← y.2.2.2.1]; exact hc)⟩
  · obtain ⟨a1, a2, a3, a4⟩ := m1 c hc
    refine ⟨(y.2.2.2.1 c).trans a1, (y.2.2.2.2.1 c).trans a2, fun z i => ?_, fun z i => (y.2.2.2.2.2.1 c i).trans (a4 z i)⟩
    rw [← a3 z i]
    by_cases w : ∀ k, (xk k = true ∨ k = 20) → c ≠ xc h' x q k
    · exact y.2.2.2.2.2.2 c w i
    · have ⟨k, w1⟩ := Classical.not_forall.mp w
      obtain ⟨w2, w3⟩ := Classical.not_imp.mp w1
      have w4 := Classical.not_not.mp w3
      rw [w4, y.2.2.1 k w2, y0.2.2.1 k w2]
      rcases w2 with w2 | w2
      · by_cases mk' : mvk k
        · exact absurd (by rw [w4, xc_q q w2, ec k w2]) (z k mk')
        · rw [e k ?_]
          unfold xk at w2
          simp only [Bool.or_eq_true, beq_iff_eq] at w2
          unfold mvk at mk'
          omega
      · subst w2
        rcases hq with hq | hq
        · exact absurd (by rw [show c = q from w4]; exact hq) hc
        · rw [hq]
  · rw [y.2.2.2.2.2.1, y.2.2.2.1]; exact m2 i hi
end CMV
