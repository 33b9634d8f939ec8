/-! the class's states: what they hold; a new one -/
theorem CpR.fr {h h' : Hp} {a b : Nat} (p : CpR h a b h') (g : GS h) (ha : hK h a = 6) : FR h h' := by
  obtain ⟨⟨a1, -⟩, ⟨a3, -⟩, a5, -⟩ := g.1 a ha
  obtain ⟨p1, p2, p3, p4, -⟩ := p
  refine fun c hc => ⟨p1 c, p2 c, p3 c (fun e => ?_) (fun e => ?_) (fun e => ?_), p4 c (fun e => ?_)⟩
  · rw [e, ha] at hc; unfold im at hc; omega
  · rw [e, a1] at hc; unfold im at hc; omega
  · rw [e, a3] at hc; unfold im at hc; omega
  · rw [e, a5] at hc; unfold im at hc; omega
theorem CpR.gs {h h' : Hp} {a b : Nat} (p : CpR h a b h') (g : GS h) (ha : hK h a = 6) (hb : hK h b = 6) : GS h' := by
  obtain ⟨p1, p2, p3, p4, -, -, -, p8⟩ := p
  have n2 : ∀ s, hK h s = 6 → s ≠ hR h a 2 := fun s hs e => by
    have := (g.1 a ha).2.2.1
    rw [← e, hs] at this
    omega
  refine ⟨fun s hs => ?_, fun s t hs ht e => ?_⟩
  · rw [p1] at hs
    obtain ⟨⟨a1, a2⟩, ⟨a3, a4⟩, a5, a6, a7⟩ := g.1 s hs
    rw [p4 s (n2 s hs), p4 s (n2 s hs), p4 s (n2 s hs), p1, p1, p1, p2, p2, p2]
    refine ⟨⟨a1, a2⟩, ⟨a3, a4⟩, a5, a6, fun i hi => ?_⟩
    by_cases e : s = a
    · rw [e, p8 i hi, p1]
      exact (g.1 b hb).2.2.2.2 i hi
    · rw [p4 _ (g.2 s a hs ha e).2.2, p1]
      exact a7 i hi
  · rw [p1] at hs ht
    rw [p4 s (n2 s hs), p4 s (n2 s hs), p4 s (n2 s hs), p4 t (n2 t ht), p4 t (n2 t ht), p4 t (n2 t ht)]
    exact g.2 s t hs ht e
/-- a job that is there -/
def JobN (h : Hp) (ρ : Row) (j c : Nat) : Prop := JobR h ρ j c ∧ c ≠ 0
theorem JobN.fr {h h' : Hp} {ρ : Row} {j c : Nat} (J : JobN h ρ j c) (f : FR h h') : JobN h' ρ j c := ⟨JobR.fr J.1 f, J.2⟩
/-- the state s holds the row -/
def StR (h : Hp) (s : Nat) (ρ : Row) : Prop :=
  hK h s = 6 ∧ (∀ i, i < 8 → hI h s (i + 3) = ρ i) ∧ (∀ i, i < 174 → hI h (hR h s 0) i = ρ (8 + i)) ∧ (∀ i, i < 29 → hI h (hR h s 1) i = ρ (182 + i)) ∧ ∀ j, j < 12 → nI j < ρ 1 → JT ρ j ∧ JobN h ρ j (hR h (hR h s 2) j)
theorem JobR.same {h : Hp} {ρ ρ' : Row} {j c : Nat} (J : JobR h ρ j c) (e : ∀ w, w < 272 → jb ρ' j w = jb ρ j w) (hF : JT ρ j) : JobR h ρ' j c := by
  obtain ⟨j1, j2, j3, j4, j5, j6, j7⟩ := J
  refine ⟨j1, j2.same (fun w _ => e w (by omega)) hF, by rw [e 3 (by decide)]; exact j3, by rw [e 4 (by decide)]; exact j4, j5, j6, fun cc s a b => ?_⟩
  rw [show fm ρ' j cc s = fm ρ j cc s from e (67 + 29 * cc + s) (by omega)]
  exact j7 cc s a b
theorem JobN.same {h : Hp} {ρ ρ' : Row} {j c : Nat} (J : JobN h ρ j c) (e : ∀ w, w < 272 → jb ρ' j w = jb ρ j w) (hF : JT ρ j) : JobN h ρ' j c := ⟨JobR.same J.1 e hF, J.2⟩
theorem StR.congr {h : Hp} {s : Nat} {ρ ρ' : Row} (S : StR h s ρ) (e : ∀ x, x < 3475 → ρ' x = ρ x) : StR h s ρ' := by
  obtain ⟨s1, s2, s3, s4, s5⟩ := S
  refine ⟨s1, fun i hi => by rw [e i (by omega)]; exact s2 i hi, fun i hi => by rw [e _ (by omega)]; exact s3 i hi, fun i hi => by rw [e _ (by omega)]; exact s4 i hi, fun j hj hl => ?_⟩
  rw [e 1 (by decide)] at hl
  obtain ⟨t1, t2⟩ := s5 j hj hl
  exact ⟨(JT.same (fun w _ => e _ (by omega)) t1).2.2, t2.same (fun w hw => e _ (by omega)) t1⟩
/-- a state and its rows are as they were -/
theorem StR.keep {h h' : Hp} {s : Nat} {ρ : Row} (S : StR h s ρ) (g : GS h) (f : FR h h') (k : hK h' s = 6) (e1 : ∀ i, hI h' s i = hI h s i) (e2 : ∀ i, hR h' s i = hR h s i) (e3 : ∀ i, hI h' (hR h s 0) i = hI h (hR h s 0) i) (e4 : ∀ i, hI h' (hR h s 1) i = hI h (hR h s 1) i) (e5 : ∀ i, hR h' (hR h s 2) i = hR h (hR h s 2) i) : StR h' s ρ := by
  obtain ⟨s1, s2, s3, s4, s5⟩ := S
  refine ⟨k, fun i hi => by rw [e1]; exact s2 i hi, fun i hi => by rw [e2, e3]; exact s3 i hi, fun i hi => by rw [e2, e4]; exact s4 i hi, fun j hj hl => ?_⟩
  rw [e2, e5]
  exact ⟨(s5 j hj hl).1, (s5 j hj hl).2.fr f⟩
theorem CpR.to {h h' : Hp} {a b : Nat} {ρ : Row} (p : CpR h a b h') (g : GS h) (ha : hK h a = 6) (hab : a ≠ b) (S : StR h b ρ) : StR h' a ρ := by
  have f := p.fr g ha
  obtain ⟨s1, s2, s3, s4, s5⟩ := S
  have na2 : a ≠ hR h a 2 := fun e => by
    have := (g.1 a ha).2.2.1
    rw [← e, ha] at this
    omega
  obtain ⟨p1, p2, p3, p4, p5, p6, p7, p8⟩ := p
  refine ⟨by rw [p1]; exact ha, fun i hi => by rw [p5 i hi]; exact s2 i hi, fun i hi => by rw [p4 a na2, p6 i hi]; exact s3 i hi, fun i hi => by rw [p4 a na2, p7 i hi]; exact s4 i hi, fun j hj hl => ?_⟩
  rw [p4 a na2, p8 j hj]
  exact ⟨(s5 j hj hl).1, (s5 j hj hl).2.fr f⟩
theorem CpR.off {h h' : Hp} {a b s : Nat} {ρ : Row} (p : CpR h a b h') (g : GS h) (ha : hK h a = 6) (hs : s ≠ a) (S : StR h s ρ) : StR h' s ρ := by
  have f := p.fr g ha
  obtain ⟨d0, d1, d2⟩ := g.2 s a S.1 ha hs
  obtain ⟨⟨a1, -⟩, ⟨a3, -⟩, a5, -⟩ := g.1 a ha
  obtain ⟨⟨s1, -⟩, ⟨s3, -⟩, s5, -⟩ := g.1 s S.1
  have hs6 := S.1
  obtain ⟨p1, p2, p3, p4, -⟩ := p
  have na : ∀ c n : Nat, hK h c = n → n ≠ 6 → c ≠ a := fun c n x y e => by rw [e, ha] at x; omega
  have n0 : ∀ c n : Nat, hK h c = n → n ≠ 35 → c ≠ hR h a 0 := fun c n x y e => by rw [e, a1] at x; omega
  have n1 : ∀ c n : Nat, hK h c = n → n ≠ 36 → c ≠ hR h a 1 := fun c n x y e => by rw [e, a3] at x; omega
  have n2 : ∀ c n : Nat, hK h c = n → n ≠ 22 → c ≠ hR h a 2 := fun c n x y e => by rw [e, a5] at x; omega
  exact S.keep g f (by rw [p1]; exact hs6) (p3 s hs (n0 s 6 hs6 (by decide)) (n1 s 6 hs6 (by decide))) (p4 s (n2 s 6 hs6 (by decide)))
    (p3 _ (na _ 35 s1 (by decide)) d0 (n1 _ 35 s1 (by decide))) (p3 _ (na _ 36 s3 (by decide)) (n0 _ 36 s3 (by decide)) d1) (p4 _ d2)
/-- what was there is as it was -/
def Old (h h' : Hp) : Prop := ∀ c, hK h c ≠ 0 → hK h' c = hK h c ∧ hL h' c = hL h c ∧ (∀ i, hI h' c i = hI h c i) ∧ ∀ i, hR h' c i = hR h c i
theorem Old.rf (h : Hp) : Old h h := fun _ _ => ⟨rfl, rfl, fun _ => rfl, fun _ => rfl⟩
theorem Old.fr {h h' : Hp} (o : Old h h') : FR h h' := fun c hc => o c (fun e => im0 (by rw [← e]; exact hc))
theorem Old.n {h h1 : Hp} (a : Old h h1) {q k n : Nat} (hq : hK h1 q = 0) : Old h (nN h1 q k n) := fun d hd => by
  obtain ⟨a1, a2, a3, a4⟩ := a d hd
  have : ¬ d = q := fun e => hd (by rw [← a1, e]; exact hq)
  exact ⟨by rw [hK_nN, if_neg this, a1], by rw [hL_nN, if_neg this, a2], fun j => by rw [hI_nN, if_neg this, a3], fun j => by rw [hR_nN, if_neg this, a4]⟩
theorem Old.i {h h1 : Hp} (a : Old h h1) {c i : Nat} {v : Int32} (hc : hK h c = 0) : Old h (sI h1 c i v) := fun d hd => by
  obtain ⟨a1, a2, a3, a4⟩ := a d hd
  refine ⟨a1, a2, fun j => ?_, a4⟩
  rw [hI_sI, if_neg (fun (q : d = c ∧ j = i) => hd (by rw [q.1]; exact hc)), a3]
theorem Old.r {h h1 : Hp} (a : Old h h1) {c i v : Nat} (hc : hK h c = 0) : Old h (sR h1 c i v) := fun d hd => by
  obtain ⟨a1, a2, a3, a4⟩ := a d hd
  refine ⟨a1, a2, a3, fun j => ?_⟩
  rw [hR_sR, if_neg (fun (q : d = c ∧ j = i) => hd (by rw [q.1]; exact hc)), a4]
theorem k_stInit {h h1 : Hp} {q : Nat} {K : Hp → Prop} (g : GS h) (hq : q ≠ 0) (hq0 : hK h q = 0) (e : h1 = nN h q 6 0) (kk : ∀ h', Old h h' → hK h' q = 6 → GS h' → (hK h (hR h' q 0) = 0 ∧ hK h (hR h' q 1) = 0 ∧ hK h (hR h' q 2) = 0) → K h') : V_X5_init q h1 K := by
  have o1 : Old h h1 := by rw [e]; exact (Old.rf h).n hq0
  have k1 : hK h1 q = 6 := by rw [e, hK_nN, if_pos rfl]
  refine ⟨hq, fun q1 n1 z1 h2 e2 => ?_⟩
  have o2 : Old h h2 := by rw [e2]; exact o1.n z1
  have d1 : ¬ q = q1 := fun x => by rw [← x, k1] at z1; omega
  have k2 : hK h2 q = 6 := by rw [e2, hK_nN, if_neg d1]; exact k1
  refine ⟨k2, fun h3 e3 => fun q2 n2 z2 h4 e4 => ?_⟩
  have o3 : Old h h3 := by rw [e3]; exact o2.r hq0
  have o4 : Old h h4 := by rw [e4]; exact o3.n z2
  have k3 : ∀ c, hK h3 c = hK h2 c := fun c => by rw [e3]; rfl
  have d2 : ¬ q = q2 := fun x => by rw [k3, ← x, k2] at z2; omega
  have d12 : ¬ q1 = q2 := fun x => by rw [k3, ← x, e2, hK_nN, if_pos rfl] at z2; omega
  have k4 : hK h4 q = 6 := by rw [e4, hK_nN, if_neg d2, k3]; exact k2
  refine ⟨k4, fun h5 e5 => fun q3 n3 z3 h6 e6 => ?_⟩
  have o5 : Old h h5 := by rw [e5]; exact o4.r hq0
  have o6 : Old h h6 := by rw [e6]; exact o5.n z3
  have k5 : ∀ c, hK h5 c = hK h4 c := fun c => by rw [e5]; rfl
  have d3 : ¬ q = q3 := fun x => by rw [k5, ← x, k4] at z3; omega
  have d13 : ¬ q1 = q3 := fun x => by rw [k5, ← x, e4, hK_nN, if_neg d12, k3, e2, hK_nN, if_pos rfl] at z3; omega
  have d23 : ¬ q2 = q3 := fun x => by rw [k5, ← x, e4, hK_nN, if_pos rfl] at z3; omega
  have k6 : hK h6 q = 6 := by rw [e6, hK_nN, if_neg d3, k5]; exact k4
  refine ⟨k6, fun h7 e7 => ?_⟩
  have o7 : Old h h7 := by rw [e7]; exact o6.r hq0
  have k7 : ∀ c, hK h7 c = hK h6 c := fun c => by rw [e7]; rfl
  have fin : ∀ h8, Old h h8 → (∀ c, hK h8 c = hK h7 c) → (∀ c, hL h8 c = hL h7 c) → (∀ c i, hR h8 c i = hR h7 c i) → K h8 := by
    intro h8 o8 k8 l8 r8
    have kq : hK h8 q = 6 := by rw [k8, k7]; exact k6
    have rq0 : hR h8 q 0 = q1 := by rw [r8, e7, hR_sR, if_neg (fun (z : q = q ∧ 0 = 2) => by omega), e6, hR_nN, if_neg d3, e5, hR_sR, if_neg (fun (z : q = q ∧ 0 = 1) => by omega), e4, hR_nN, if_neg d2, e3, hR_sR, if_pos ⟨rfl, rfl⟩]
    have rq1 : hR h8 q 1 = q2 := by rw [r8, e7, hR_sR, if_neg (fun (z : q = q ∧ 1 = 2) => by omega), e6, hR_nN, if_neg d3, e5, hR_sR, if_pos ⟨rfl, rfl⟩]
    have rq2 : hR h8 q 2 = q3 := by rw [r8, e7, hR_sR, if_pos ⟨rfl, rfl⟩]
    have kq1 : hK h8 q1 = 35 := by rw [k8, k7, e6, hK_nN, if_neg d13, k5, e4, hK_nN, if_neg d12, k3, e2, hK_nN, if_pos rfl]
    have kq2 : hK h8 q2 = 36 := by rw [k8, k7, e6, hK_nN, if_neg d23, k5, e4, hK_nN, if_pos rfl]
    have kq3 : hK h8 q3 = 22 := by rw [k8, k7, e6, hK_nN, if_pos rfl]
    have lq1 : hL h8 q1 = 174 := by rw [l8, e7, hL_sR, e6, hL_nN, if_neg d13, e5, hL_sR, e4, hL_nN, if_neg d12, e3, hL_sR, e2, hL_nN, if_pos rfl]
    have lq2 : hL h8 q2 = 29 := by rw [l8, e7, hL_sR, e6, hL_nN, if_neg d23, e5, hL_sR, e4, hL_nN, if_pos rfl]
    have lq3 : hL h8 q3 = 12 := by rw [l8, e7, hL_sR, e6, hL_nN, if_pos rfl]
    have rq3 : ∀ i, hR h8 q3 i = 0 := fun i => by rw [r8, e7, hR_sR, if_neg (fun (z : q3 = q ∧ i = 2) => d3 z.1.symm), e6, hR_nN, if_pos rfl]
    have f1 : hK h q1 = 0 := by
      by_cases z : hK h q1 = 0
      · exact z
      · rw [(o1 q1 z).1] at z1; exact z1
    have f2 : hK h q2 = 0 := by
      by_cases z : hK h q2 = 0
      · exact z
      · rw [(o3 q2 z).1] at z2; exact z2
    have f3 : hK h q3 = 0 := by
      by_cases z : hK h q3 = 0
      · exact z
      · rw [(o5 q3 z).1] at z3; exact z3
    have old : ∀ s, hK h8 s = 6 → s = q ∨ hK h s = 6 := fun s hs => by
      by_cases e0 : s = q
      · exact Or.inl e0
      · right
        have a1 : s ≠ q1 := fun x => by rw [x, kq1] at hs; omega
        have a2 : s ≠ q2 := fun x => by rw [x, kq2] at hs; omega
        have a3 : s ≠ q3 := fun x => by rw [x, kq3] at hs; omega
        rw [k8, k7, e6, hK_nN, if_neg a3, k5, e4, hK_nN, if_neg a2, k3, e2, hK_nN, if_neg a1, e, hK_nN, if_neg e0] at hs
        exact hs
    refine kk h8 o8 kq ⟨fun s hs => ?_, fun s t hs ht hst => ?_⟩ ⟨by rw [rq0]; exact f1, by rw [rq1]; exact f2, by rw [rq2]; exact f3⟩
    · rcases old s hs with e0 | e0
      · rw [e0, rq0, rq1, rq2]
        exact ⟨⟨kq1, lq1⟩, ⟨kq2, lq2⟩, kq3, lq3, fun i _ => Or.inl (rq3 i)⟩
      · obtain ⟨⟨a1, a2⟩, ⟨a3, a4⟩, a5, a6, a7⟩ := g.1 s e0
        have os := o8 s (by rw [e0]; decide)
        have b0 := o8 (hR h s 0) (by rw [a1]; decide)
        have b1 := o8 (hR h s 1) (by rw [a3]; decide)
        have b2 := o8 (hR h s 2) (by rw [a5]; decide)
        rw [os.2.2.2, os.2.2.2, os.2.2.2, b0.1, b0.2.1, b1.1, b1.2.1, b2.1, b2.2.1]
        refine ⟨⟨a1, a2⟩, ⟨a3, a4⟩, a5, a6, fun i hi => ?_⟩
        rw [b2.2.2.2]
        rcases a7 i hi with z | z
        · exact Or.inl z
        · exact Or.inr (by rw [(o8 _ (by rw [z]; decide)).1]; exact z)
    · have one : ∀ t, hK h t = 6 → q1 ≠ hR h8 t 0 ∧ q2 ≠ hR h8 t 1 ∧ q3 ≠ hR h8 t 2 := fun t e0 => by
        obtain ⟨⟨a1, a2⟩, ⟨a3, a4⟩, a5, a6, a7⟩ := g.1 t e0
        have os := o8 t (by rw [e0]; decide)
        rw [os.2.2.2, os.2.2.2, os.2.2.2]
        exact ⟨fun x => by rw [← x, f1] at a1; omega, fun x => by rw [← x, f2] at a3; omega, fun x => by rw [← x, f3] at a5; omega⟩
      rcases old s hs with e0 | e0
      · rcases old t ht with e1 | e1
        · exact absurd (e0.trans e1.symm) hst
        · rw [e0, rq0, rq1, rq2]; exact one t e1
      · rcases old t ht with e1 | e1
        · rw [e1, rq0, rq1, rq2]
          exact ⟨fun x => (one s e0).1 x.symm, fun x => (one s e0).2.1 x.symm, fun x => (one s e0).2.2 x.symm⟩
        · rw [(o8 s (by rw [e0]; decide)).2.2.2, (o8 s (by rw [e0]; decide)).2.2.2, (o8 s (by rw [e0]; decide)).2.2.2, (o8 t (by rw [e1]; decide)).2.2.2, (o8 t (by rw [e1]; decide)).2.2.2, (o8 t (by rw [e1]; decide)).2.2.2]
          exact g.2 s t e0 e1 hst
  refine ⟨by rw [k7]; exact k6, fun h8 e8 => ⟨by rw [e8]; exact (k7 q).trans k6, fun h9 e9 => ⟨by rw [e9, e8]; exact (k7 q).trans k6, fun ha ea => ⟨by rw [ea, e9, e8]; exact (k7 q).trans k6, fun hb eb => ⟨by rw [eb, ea, e9, e8]; exact (k7 q).trans k6, fun hc ec => ⟨by rw [ec, eb, ea, e9, e8]; exact (k7 q).trans k6, fun hd ed => ⟨by rw [ed, ec, eb, ea, e9, e8]; exact (k7 q).trans k6, fun he ee => ⟨by rw [ee, ed, ec, eb, ea, e9, e8]; exact (k7 q).trans k6, fun hf ef => fin hf ?_ (fun c => by rw [ef, ee, ed, ec, eb, ea, e9, e8]; rfl) (fun c => by rw [ef, ee, ed, ec, eb, ea, e9, e8]; rfl) (fun c i => by rw [ef, ee, ed, ec, eb, ea, e9, e8]; rfl)⟩⟩⟩⟩⟩⟩⟩⟩
  rw [ef, ee, ed, ec, eb, ea, e9, e8]
  exact (((((((o7.i hq0).i hq0).i hq0).i hq0).i hq0).i hq0).i hq0).i hq0
