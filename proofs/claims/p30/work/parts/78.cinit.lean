/-! the constructors -/
theorem k_stNew {hh h : Hp} {y : Nat} {K : Hp → Prop} (hy : y ≠ 0) (hz : hK hh y = 0) (e : h = nN hh y 6 0) (kk : ∀ h', NA hh y 6 (fun g => if g = 2 then (22, 12) else if g = 1 then (36, 29) else if g = 0 then (35, 174) else (0, 0)) h' → K h') : V_X5_init y h K := by
  have N0 := NA.of hz e
  refine ⟨hy, fun q1 n1 z1 h1 e1 => ?_⟩
  obtain ⟨a1, N1⟩ := N0.arr (by decide) n1 z1 e1 (by decide) 0 rfl
  refine ⟨a1, fun g1 f1 q2 n2 z2 h2 e2 => ?_⟩
  obtain ⟨a2, N2⟩ := (N1 g1 f1).arr (by decide) n2 z2 e2 (by decide) 1 rfl
  refine ⟨a2, fun g2 f2 q3 n3 z3 h3 e3 => ?_⟩
  obtain ⟨a3, N3⟩ := (N2 g2 f2).arr (by decide) n3 z3 e3 (by decide) 2 rfl
  refine ⟨a3, fun g3 f3 => ?_⟩
  have M0 := N3 g3 f3
  refine ⟨M0.2.2.1, fun i1 j1 => ?_⟩
  have M1 := M0.i0 rfl j1
  refine ⟨M1.2.2.1, fun i2 j2 => ?_⟩
  have M2 := M1.i0 rfl j2
  refine ⟨M2.2.2.1, fun i3 j3 => ?_⟩
  have M3 := M2.i0 rfl j3
  refine ⟨M3.2.2.1, fun i4 j4 => ?_⟩
  have M4 := M3.i0 rfl j4
  refine ⟨M4.2.2.1, fun i5 j5 => ?_⟩
  have M5 := M4.i0 rfl j5
  refine ⟨M5.2.2.1, fun i6 j6 => ?_⟩
  have M6 := M5.i0 rfl j6
  refine ⟨M6.2.2.1, fun i7 j7 => ?_⟩
  have M7 := M6.i0 rfl j7
  refine ⟨M7.2.2.1, fun i8 j8 => ?_⟩
  exact kk i8 (M7.i0 rfl j8)
/-- all but x is as it was -/
def Ox (x : Nat) (h h' : Hp) : Prop := (∀ c, hK h c ≠ 0 → c ≠ x → hK h' c = hK h c ∧ hL h' c = hL h c ∧ (∀ i, hI h' c i = hI h c i) ∧ ∀ i, hR h' c i = hR h c i) ∧ hK h' x = hK h x
theorem Ox.tr {x : Nat} {h h1 h2 : Hp} (a : Ox x h h1) (b : Ox x h1 h2) : Ox x h h2 := by
  refine ⟨fun c hc hx => ?_, b.2.trans a.2⟩
  obtain ⟨a1, a2, a3, a4⟩ := a.1 c hc hx
  obtain ⟨b1, b2, b3, b4⟩ := b.1 c (by rw [a1]; exact hc) hx
  exact ⟨b1.trans a1, b2.trans a2, fun i => (b3 i).trans (a3 i), fun i => (b4 i).trans (a4 i)⟩
theorem Ox.old {x : Nat} {h h' : Hp} (o : Old h h') (kx : hK h x ≠ 0) : Ox x h h' := ⟨fun c hc _ => o c hc, (o x kx).1⟩
theorem Ox.rf {x : Nat} {h : Hp} : Ox x h h := ⟨fun _ _ _ => ⟨rfl, rfl, fun _ => rfl, fun _ => rfl⟩, rfl⟩
theorem Ox.sr {x f v : Nat} {h h' : Hp} (e : h' = sR h x f v) : Ox x h h' := by
  subst e
  exact ⟨fun c _ hx => ⟨rfl, rfl, fun _ => rfl, fun i => by rw [hR_sR, if_neg (fun w => hx w.1)]⟩, rfl⟩
theorem Ox.si {x f : Nat} {v : Int32} {h h' : Hp} (e : h' = sI h x f v) : Ox x h h' := by
  subst e
  exact ⟨fun c _ hx => ⟨rfl, rfl, fun i => by rw [hI_sI, if_neg (fun w => hx w.1)], fun _ => rfl⟩, rfl⟩
theorem ox_arr {h h1 h2 : Hp} {x q k n f : Nat} (kx : hK h x = 7) (z : hK h q = 0) (e1 : h1 = nN h q k n) (e2 : h2 = sR h1 x f q) : Ox x h h2 ∧ q ≠ x ∧ hK h2 q = k ∧ hL h2 q = n ∧ (∀ i, hR h2 q i = 0) ∧ hR h2 x f = q ∧ (∀ g, g ≠ f → hR h2 x g = hR h x g) ∧ (∀ i, hI h2 x i = hI h x i) ∧ ∀ c, c ≠ q → hK h2 c = hK h c := by
  have nx : x ≠ q := fun e => by rw [← e, kx] at z; omega
  have o1 : Old h h1 := by rw [e1]; exact (Old.rf h).n z
  refine ⟨(Ox.old o1 (by rw [kx]; decide)).tr (Ox.sr e2), nx.symm, by rw [e2, hK_sR, e1, hK_nN, if_pos rfl], by rw [e2, hL_sR, e1, hL_nN, if_pos rfl], fun i => by rw [e2, hR_sR, if_neg (fun w => nx w.1.symm), e1, hR_nN, if_pos rfl], by rw [e2, hR_sR, if_pos ⟨rfl, rfl⟩], fun g hg => by rw [e2, hR_sR, if_neg (fun w => hg w.2), e1, hR_nN, if_neg nx], fun i => by rw [e2, hI_sR, e1, hI_nN, if_neg nx], fun c hc => by rw [e2, hK_sR, e1, hK_nN, if_neg hc]⟩
theorem k_clsInit {hh h : Hp} {x : Nat} {K : Hp → Prop} (hx : x ≠ 0) (hz : ∀ c, hK hh c = 0) (e : h = nN hh x 7 0) (kk : ∀ h', CR h' x (fun _ _ => 0) 0 → K h') : V_X6_init x h K := by
  have kx : hK h x = 7 := by rw [e, hK_nN, if_pos rfl]
  have ko : ∀ c, c ≠ x → hK h c = 0 := fun c hc => by rw [e, hK_nN, if_neg hc]; exact hz c
  have ix0 : ∀ i, hI h x i = 0 := fun i => by rw [e, hI_nN, if_pos rfl]
  refine ⟨hx, fun q1 n1 z1 h1 e1 => ⟨n1, ?_⟩⟩
  -- the draft
  have N0 := NA.of z1 e1
  refine ⟨n1, fun qt nt zt t1 et1 => ?_⟩
  obtain ⟨a1, N1⟩ := N0.arr (by decide) nt zt et1 (by decide) 0 rfl
  refine ⟨a1, fun t2 et2 => ?_⟩
  have N2 := N1 t2 et2
  refine ⟨N2.2.2.1, fun h2 e2 => ?_⟩
  obtain ⟨o2, -, k2, ar2, v2, cl2⟩ := N2.i0 rfl e2
  obtain ⟨b0, b1, b2, b3, b4, b5, -⟩ := ar2 0 (by decide)
  have ox2 := o2 x (by rw [kx]; decide)
  refine ⟨ox2.1.trans kx, fun h3 e3 q2 n2 z2 h4 e4 => ⟨n2, ?_⟩⟩
  have kx3 : hK h3 x = 7 := by rw [e3]; exact ox2.1.trans kx
  -- the present state
  refine k_stNew n2 z2 e4 (fun h5 N5 => ?_)
  obtain ⟨o5, -, k5, ar5, v5, cl5⟩ := N5
  obtain ⟨c0, c1, c2, c3, c4, c5, -⟩ := ar5 0 (by decide)
  obtain ⟨d0, d1, d2, d3, d4, d5, -⟩ := ar5 1 (by decide)
  obtain ⟨u0, u1, u2, u3, u4, -, u5⟩ := ar5 2 (by decide)
  have ox5 := o5 x (by rw [kx3]; decide)
  refine ⟨ox5.1.trans kx3, fun h6 e6 q3 n3 z3 h7 e7 => ?_⟩
  have kx6 : hK h6 x = 7 := by rw [e6]; exact ox5.1.trans kx3
  have nx3 : x ≠ q3 := fun w => by rw [← w, kx6] at z3; omega
  refine ⟨by rw [e7, hK_nN, if_neg nx3]; exact kx6, fun h8 e8 => ?_⟩
  obtain ⟨O8, -, k8, l8, r8, f8, g8, i8', j8⟩ := ox_arr kx6 z3 e7 e8
  have kx8 : hK h8 x = 7 := O8.2.trans kx6
  refine ⟨kx8, fun h9 e9 => ⟨by rw [e9]; exact kx8, fun ha ea q4 n4' z4 hb eb => ⟨n4', ?_⟩⟩⟩
  have kxa : hK ha x = 7 := by rw [ea, e9]; exact kx8
  have nx4 : x ≠ q4 := fun w => by rw [← w, kxa] at z4; omega
  -- the spacer
  have S0 := NA.of z4 eb
  refine ⟨n4', S0.2.2.1, fun s1 w1 => ?_⟩
  have S1 := S0.i0 rfl w1
  refine ⟨S1.2.2.1, fun s2 w2 => ?_⟩
  have S2 := S1.i0 rfl w2
  refine ⟨S2.2.2.1, fun s3 w3 => ?_⟩
  have S3 := S2.i0 rfl w3
  refine ⟨S3.2.2.1, fun s4 w4 => ?_⟩
  have S4 := S3.i0 rfl w4
  refine ⟨S4.2.2.1, fun s5 w5 => ?_⟩
  have S5 := S4.i0 rfl w5
  refine ⟨S5.2.2.1, fun s6 w6 => ?_⟩
  have S6 := S5.i0 rfl w6
  refine ⟨S6.2.2.1, fun s7 w7 => ?_⟩
  have S7 := S6.i0 rfl w7
  refine ⟨S7.2.2.1, fun hc wc => ?_⟩
  obtain ⟨oc, -, kc, -, -, clc⟩ := S7.i0 rfl wc
  have oxc := oc x (by rw [kxa]; decide)
  refine ⟨oxc.1.trans kxa, fun hd ed q5 n5 z5 he ee => ?_⟩
  have kxd : hK hd x = 7 := by rw [ed]; exact oxc.1.trans kxa
  have nx5 : x ≠ q5 := fun w => by rw [← w, kxd] at z5; omega
  refine ⟨by rw [ee, hK_nN, if_neg nx5]; exact kxd, fun hf ef q6 n6 z6 hg eg => ?_⟩
  obtain ⟨O1, -, p1, p2, -, p3, p4, p5, p6⟩ := ox_arr kxd z5 ee ef
  have kxf : hK hf x = 7 := O1.2.trans kxd
  have nx6 : x ≠ q6 := fun w => by rw [← w, kxf] at z6; omega
  refine ⟨by rw [eg, hK_nN, if_neg nx6]; exact kxf, fun hi ei q7 n7 z7 hj ej => ?_⟩
  obtain ⟨O2, -, r1, r2, -, r3, r4, r5, r6⟩ := ox_arr kxf z6 eg ei
  have kxi : hK hi x = 7 := O2.2.trans kxf
  have nx7 : x ≠ q7 := fun w => by rw [← w, kxi] at z7; omega
  refine ⟨by rw [ej, hK_nN, if_neg nx7]; exact kxi, fun hk ek => ?_⟩
  obtain ⟨O3, -, t1', t2', -, t3, t4, t5, t6⟩ := ox_arr kxi z7 ej ek
  -- from each stage to the end
  have Oi : Ox x hf hk := O2.tr O3
  have Od : Ox x hd hk := O1.tr Oi
  have Oc : Ox x hc hk := (Ox.sr ed).tr Od
  have Oa : Ox x ha hk := (Ox.old oc (by rw [kxa]; decide)).tr Oc
  have Oh8 : Ox x h8 hk := ((Ox.si e9).tr (Ox.sr ea)).tr Oa
  have O6 : Ox x h6 hk := O8.tr Oh8
  have O5 : Ox x h5 hk := (Ox.sr e6).tr O6
  have Oh3 : Ox x h3 hk := (Ox.old o5 (by rw [kx3]; decide)).tr O5
  have Oh2 : Ox x h2 hk := (Ox.sr e3).tr Oh3
  -- the fields of x
  have ra0 : ∀ g, g ≠ 4 → hR ha x g = hR h8 x g := fun g hg => by rw [ea, hR_sR, if_neg (fun w => hg w.2), e9]; rfl
  have ra4 : hR ha x 4 = 0 := by rw [ea, hR_sR, if_pos ⟨rfl, rfl⟩]
  have rd : ∀ g, g ≠ 5 → hR hd x g = hR ha x g := fun g hg => by rw [ed, hR_sR, if_neg (fun w => hg w.2)]; exact oxc.2.2.2 g
  have F0 : hR hk x 0 = q1 := by rw [t4 0 (by decide), r4 0 (by decide), p4 0 (by decide), rd 0 (by decide), ra0 0 (by decide), g8 0 (by decide), e6, hR_sR, if_neg (fun w => absurd w.2 (by decide)), ox5.2.2.2, e3, hR_sR, if_pos ⟨rfl, rfl⟩]
  have F1 : hR hk x 1 = q2 := by rw [t4 1 (by decide), r4 1 (by decide), p4 1 (by decide), rd 1 (by decide), ra0 1 (by decide), g8 1 (by decide), e6, hR_sR, if_pos ⟨rfl, rfl⟩]
  have F2 : hR hk x 2 = q3 := by rw [t4 2 (by decide), r4 2 (by decide), p4 2 (by decide), rd 2 (by decide), ra0 2 (by decide), f8]
  have F4 : hR hk x 4 = 0 := by rw [t4 4 (by decide), r4 4 (by decide), p4 4 (by decide), rd 4 (by decide), ra4]
  have F5 : hR hk x 5 = q4 := by rw [t4 5 (by decide), r4 5 (by decide), p4 5 (by decide), ed, hR_sR, if_pos ⟨rfl, rfl⟩]
  have F6 : hR hk x 6 = q5 := by rw [t4 6 (by decide), r4 6 (by decide), p3]
  have F7 : hR hk x 7 = q6 := by rw [t4 7 (by decide), r3]
  have I3 : hI hk x 3 = 0 := by rw [t5, r5, p5, ed, hI_sR, oxc.2.2.1, ea, hI_sR, e9, hI_sI, if_pos ⟨rfl, rfl⟩]
  -- the cells at the end
  have ne : ∀ (g : Hp) (c n : Nat), hK g c = n → n ≠ 7 → hK g x = 7 → c ≠ x := fun g c n y z w q => z (by rw [← y, q, w])
  have kx2 : hK h2 x = 7 := ox2.1.trans kx
  have kx5 : hK h5 x = 7 := ox5.1.trans kx3
  have E1 := Oh2.1 q1 (by rw [k2]; decide) (ne h2 _ 1 k2 (by decide) kx2)
  have Et := Oh2.1 (hR h2 q1 0) (by rw [b3]; decide) (ne h2 _ 21 b3 (by decide) kx2)
  have E2 := O5.1 q2 (by rw [k5]; decide) (ne h5 _ 6 k5 (by decide) kx5)
  have Ec := O5.1 (hR h5 q2 0) (by rw [c3]; decide) (ne h5 _ 35 c3 (by decide) kx5)
  have Ed := O5.1 (hR h5 q2 1) (by rw [d3]; decide) (ne h5 _ 36 d3 (by decide) kx5)
  have Eu := O5.1 (hR h5 q2 2) (by rw [u3]; decide) (ne h5 _ 22 u3 (by decide) kx5)
  have E3 := Oh8.1 q3 (by rw [k8]; decide) (ne h8 _ 23 k8 (by decide) kx8)
  have E4 := Oc.1 q4 (by rw [kc]; decide) (ne hc _ 5 kc (by decide) (oxc.1.trans kxa))
  have E5 := Oi.1 q5 (by rw [p1]; decide) (ne hf _ 37 p1 (by decide) kxf)
  have E6 := O3.1 q6 (by rw [r1]; decide) (ne hi _ 38 r1 (by decide) kxi)
  have kxk : hK hk x = 7 := O3.2.trans kxi
  have R1 : hR hk q1 0 = hR h2 q1 0 := E1.2.2.2 0
  have R2 : ∀ i, hR hk q2 i = hR h5 q2 i := E2.2.2.2
  -- no other state
  have one : ∀ c, hK hk c = 6 → c = q2 := by
    intro c hc'
    have s1 : hK hi c = 6 := by
      by_cases w : c = q7
      · rw [w, t1'] at hc'; omega
      · rw [← t6 c w]; exact hc'
    have s2 : hK hf c = 6 := by
      by_cases w : c = q6
      · rw [w, r1] at s1; omega
      · rw [← r6 c w]; exact s1
    have s3 : hK hd c = 6 := by
      by_cases w : c = q5
      · rw [w, p1] at s2; omega
      · rw [← p6 c w]; exact s2
    have s4 : hK hc c = 6 := by rw [ed] at s3; exact s3
    have s5 : hK ha c = 6 := by
      rcases clc c (by rw [s4]; decide) with w | w | ⟨f, w, -⟩
      · rw [← (oc c w).1]; exact s4
      · rw [w, kc] at s4; omega
      · exact absurd rfl w
    have s6 : hK h8 c = 6 := by rw [ea, e9] at s5; exact s5
    have s7 : hK h6 c = 6 := by
      by_cases w : c = q3
      · rw [w, k8] at s6; omega
      · rw [← j8 c w]; exact s6
    have s8 : hK h5 c = 6 := by rw [e6] at s7; exact s7
    rcases cl5 c (by rw [s8]; decide) with w | w | ⟨f, w1, w2⟩
    · exfalso
      have s9 : hK h3 c = 6 := by rw [← (o5 c w).1]; exact s8
      have sa : hK h2 c = 6 := by rw [e3] at s9; exact s9
      rcases cl2 c (by rw [sa]; decide) with w | w | ⟨f, w1, w2⟩
      · have := (o2 c w).1
        by_cases w' : c = x
        · rw [w', kx2] at sa; omega
        · exact w (ko c w')
      · rw [w, k2] at sa; omega
      · have := (ar2 f w1).2.2.2.1
        rw [← w2, sa] at this
        revert this
        show 6 = (if f = 0 then (21, 60) else (0, 0)).1 → False
        split <;> intro w <;> exact absurd w (by decide)
    · exact w
    · exfalso
      have := (ar5 f w1).2.2.2.1
      rw [← w2, s8] at this
      revert this
      show 6 = (if f = 2 then (22, 12) else if f = 1 then (36, 29) else if f = 0 then (35, 174) else (0, 0)).1 → False
      split <;> (try split) <;> (try split) <;> intro w <;> exact absurd w (by decide)
  have hs0 : ∀ i, hs hk x i = 0 := fun i => by unfold hs; rw [F2, E3.2.2.2]; exact r8 i
  have x0 : ∀ k, xk k = true → hK hk (xc hk x 0 k) = k := fun k hk' => by
    unfold xk at hk'
    simp only [Bool.or_eq_true, beq_iff_eq] at hk'
    rcases hk' with ((((((((w | w) | w) | w) | w) | w) | w) | w) | w) | w <;> subst w
    · exact kxk
    · show hK hk (hR hk x 0) = 1; rw [F0, E1.1]; exact k2
    · show hK hk (hR hk (hR hk x 0) 0) = 21; rw [F0, R1, Et.1]; exact b3
    · show hK hk (hR hk x 1) = 6; rw [F1, E2.1]; exact k5
    · show hK hk (hR hk (hR hk x 1) 0) = 35; rw [F1, R2, Ec.1]; exact c3
    · show hK hk (hR hk (hR hk x 1) 1) = 36; rw [F1, R2, Ed.1]; exact d3
    · show hK hk (hR hk x 5) = 5; rw [F5, E4.1]; exact kc
    · show hK hk (hR hk x 6) = 37; rw [F6, E5.1]; exact p1
    · show hK hk (hR hk x 7) = 38; rw [F7, E6.1]; exact r1
    · show hK hk (hR hk x 8) = 39; rw [t3]; exact t1'
  have xs : XS hk x := by
    refine ⟨x0, fun k hk' => ?_⟩
    rcases hk' with w | w | w | w | w | w <;> subst w
    · show hL hk (hR hk (hR hk x 0) 0) = 60; rw [F0, R1, Et.2.1]; exact b4
    · show hL hk (hR hk (hR hk x 1) 0) = 174; rw [F1, R2, Ec.2.1]; exact c4
    · show hL hk (hR hk (hR hk x 1) 1) = 29; rw [F1, R2, Ed.2.1]; exact d4
    · show hL hk (hR hk x 6) = 29; rw [F6, E5.2.1]; exact p2
    · show hL hk (hR hk x 7) = 29; rw [F7, E6.2.1]; exact r2
    · show hL hk (hR hk x 8) = 29; rw [t3]; exact t2'
  have gs : GS hk := by
    refine ⟨fun s hs' => ?_, fun s t hs' ht hne => absurd ((one s hs').trans (one t ht).symm) hne⟩
    rw [one s hs', R2, R2, R2, Ec.1, Ec.2.1, Ed.1, Ed.2.1, Eu.1, Eu.2.1]
    exact ⟨⟨c3, c4⟩, ⟨d3, d4⟩, u3, u4, fun i _ => Or.inl (by rw [Eu.2.2.2]; exact u5 i)⟩
  refine kk hk ⟨⟨xs, gs, ?_, fun i _ => Or.inl (hs0 i), fun i _ => by rw [hs0, F1]; exact n2.symm, fun i _ w => absurd (hs0 i) w, fun i j _ _ _ w => absurd (hs0 i) w, Or.inl F4, by rw [F4, F1]; exact n2.symm⟩, ⟨?_, fun i _ => ?_, ⟨I3, rfl, by decide⟩, fun i hi => absurd hi (Nat.not_lt_zero _), Or.inl ⟨F4, rfl⟩⟩, ?_⟩
  · rw [F2, E3.1, E3.2.1]; exact ⟨k8, l8⟩
  · rw [F0, E1.2.2.1]; exact v2 1
  · rw [F0, R1, Et.2.2.1]; exact b5 i
  · rw [F1]
    refine ⟨by rw [E2.1]; exact k5, fun i _ => by rw [E2.2.2.1]; exact v5 _, fun i _ => by rw [R2, Ec.2.2.1]; exact c5 i, fun i _ => by rw [R2, Ed.2.2.1]; exact d5 i, fun j _ hl => ?_⟩
    exfalso
    have : ¬ nI j < 0 := cn0 (by omega)
    exact this hl
