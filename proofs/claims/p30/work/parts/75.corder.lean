/-! the class's calls: order -/
section CORD
variable {h h' : Hp} {x : Nat} {σ : Nat → Nat → Int32} {k : Nat} {K : Int32 → Hp → Prop}
theorem CR.mv (C : CR h x σ k) (m : Mv h x h') (S' : StR h' (hR h x 1) (σ 0)) : CR h' x σ k := by
  obtain ⟨g, ⟨v1, v2, ⟨v3, v4, v5⟩, v6, v7⟩, S⟩ := C
  obtain ⟨w1, w2, w3⟩ := m.hv g
  have rx := (m.cells g).1
  refine ⟨m.hst g, ⟨by rw [w1]; exact v1, fun i hi => by rw [w2]; exact v2 i hi, ⟨by rw [w3]; exact v3, v4, v5⟩, fun i hi => ?_, ?_⟩, by rw [rx]; exact S'⟩
  · rw [m.his g]; exact m.st g (v6 i hi) (g.2.2.2.2.1 i (by omega))
  · rw [rx]
    rcases v7 with z | ⟨z1, z2, z3⟩
    · exact Or.inl z
    · exact Or.inr ⟨z1, z2, m.st g z3 g.2.2.2.2.2.2.2.2⟩
theorem CR.old (C : CR h x σ k) (o : Old h h') (k6 : ∀ c, hK h' c = 6 → hK h c = 6) : CR h' x σ k := by
  have g := C.1
  have S := C.2.2
  obtain ⟨⟨a1, -⟩, ⟨a3, -⟩, a5, -⟩ := g.2.1.1 _ g.kn
  have os := o _ (show hK h (hR h x 1) ≠ 0 by rw [g.kn]; decide)
  exact C.mv ((Mv.rf g).old o k6 g) (S.keep g.2.1 o.fr (os.1.trans g.kn) os.2.2.1 os.2.2.2 (o _ (by rw [a1]; decide)).2.2.1 (o _ (by rw [a3]; decide)).2.2.1 (o _ (by rw [a5]; decide)).2.2.2)
theorem ordR_o {ρ : Row} {j t : Nat} {b w d : Int32} {tx : Nat → Int32} (ht : t ≤ 60) {y : Nat} (h1 : y ≠ 1) (h2 : y < 211 + 272 * j ∨ 211 + 272 * j + 272 ≤ y) : ordR ρ j b w d tx t y = ρ y := by
  unfold ordR
  rw [ur_n h1]
  unfold os
  rw [if_neg (by omega)]
  unfold o6
  rw [ur_n (by omega), ur_n (by omega), ur_n (by omega), ur_n (by omega), ur_n (by omega), ur_n (by omega)]
  unfold oz
  rw [if_neg (by omega)]
theorem ordR_h {ρ : Row} {j t : Nat} {b w d : Int32} {tx : Nat → Int32} : jb (ordR ρ j b w d tx t) j 0 = b ∧ jb (ordR ρ j b w d tx t) j 1 = w ∧ jb (ordR ρ j b w d tx t) j 2 = d ∧ jb (ordR ρ j b w d tx t) j 3 = 0 ∧ jb (ordR ρ j b w d tx t) j 4 = -5 ∧ jb (ordR ρ j b w d tx t) j 5 = -5 ∧ jb (ordR ρ j b w d tx t) j 6 = nI t := by
  have e : ∀ i, i < 7 → jb (ordR ρ j b w d tx t) j i = o6 (oz ρ j 272) j b w d (nI t) (211 + 272 * j + i) := fun i hi => by
    unfold jb ordR
    rw [ur_n (by omega)]
    unfold os
    rw [if_neg (by omega)]
  rw [e 0 (by decide), e 1 (by decide), e 2 (by decide), e 3 (by decide), e 4 (by decide), e 5 (by decide), e 6 (by decide)]
  unfold o6
  refine ⟨?_, ?_, ?_, ?_, ?_, ?_, ur_s _ _ _⟩
  · rw [ur_n (by omega), ur_n (by omega), ur_n (by omega), ur_n (by omega), ur_n (by omega), ur_s]
  · rw [ur_n (by omega), ur_n (by omega), ur_n (by omega), ur_n (by omega), ur_s]
  · rw [ur_n (by omega), ur_n (by omega), ur_n (by omega), ur_s]
  · rw [ur_n (by omega), ur_n (by omega), ur_n (by omega), ur_n (by omega), ur_n (by omega), ur_n (by omega)]
    unfold oz
    rw [if_pos (by omega)]
  · rw [ur_n (by omega), ur_n (by omega), ur_s]
  · rw [ur_n (by omega), ur_s]
theorem ordR_t {ρ : Row} {j t : Nat} {b w d : Int32} {tx : Nat → Int32} {i : Nat} (hi : i < t) : jtx (ordR ρ j b w d tx t) j i = tx i := by
  unfold jtx jb ordR
  rw [ur_n (by omega)]
  unfold os
  rw [if_pos (by omega)]
  congr 1; omega
theorem ordR_z {ρ : Row} {j t : Nat} {b w d : Int32} {tx : Nat → Int32} (ht : t ≤ 60) {i : Nat} (h1 : 67 ≤ i) (h2 : i < 272) : jb (ordR ρ j b w d tx t) j i = 0 := by
  unfold jb ordR
  rw [ur_n (by omega)]
  unfold os
  rw [if_neg (by omega)]
  unfold o6
  rw [ur_n (by omega), ur_n (by omega), ur_n (by omega), ur_n (by omega), ur_n (by omega), ur_n (by omega)]
  unfold oz
  rw [if_pos (by omega)]
theorem ordR_l {ρ : Row} {j t : Nat} {b w d : Int32} {tx : Nat → Int32} (ht : t ≤ 60) : jlen (ordR ρ j b w d tx t) j = t := by
  unfold jlen
  rw [ordR_h.2.2.2.2.2.2, ix_nI (by omega)]
theorem k_oInit {h1 hB : Hp} {q l : Nat} {b w d : Int32} {K : Hp → Prop} (g : HS h1 x) (m : Mv h1 x hB) (hq : q ≠ 0) (hq0 : hK h1 q = 0) (hqk : hK hB q = 4)
    (kk : ∀ h4, Mv h1 x h4 → (∀ c, hK h4 c = hK hB c) → (∀ c, hL h4 c = hL hB c) → (∀ c, c ≠ q → (∀ i, hI h4 c i = hI hB c i) ∧ ∀ i, hR h4 c i = hR hB c i) → hI h4 q 0 = b → hI h4 q 1 = w → hI h4 q 2 = d → hR h4 q 3 = l → K h4) : V_X3_init q b w d l hB K := by
  refine ⟨hq, hqk, fun h1 e1 => ⟨by rw [e1]; exact hqk, fun h2 e2 => ⟨by rw [e2, e1]; exact hqk, fun h3 e3 => ⟨by rw [e3, e2, e1]; exact hqk, fun h4 e4 => ?_⟩⟩⟩⟩
  refine kk h4 ?_ (fun c => by rw [e4, e3, e2, e1]; rfl) (fun c => by rw [e4, e3, e2, e1]; rfl) (fun c hc => ⟨fun i => ?_, fun i => ?_⟩) ?_ ?_ ?_ ?_
  · rw [e4, e3, e2, e1]
    exact (((m.i hq0).i hq0).i hq0).r hq0 g
  · rw [e4, hI_sR, e3, hI_sI, if_neg (fun z => hc z.1), e2, hI_sI, if_neg (fun z => hc z.1), e1, hI_sI, if_neg (fun z => hc z.1)]
  · rw [e4, hR_sR, if_neg (fun z => hc z.1), e3, hR_sI, e2, hR_sI, e1, hR_sI]
  · rw [e4, hI_sR, e3, hI_sI, if_neg (fun z => by omega), e2, hI_sI, if_neg (fun z => by omega), e1, hI_sI, if_pos ⟨rfl, rfl⟩]
  · rw [e4, hI_sR, e3, hI_sI, if_neg (fun z => by omega), e2, hI_sI, if_pos ⟨rfl, rfl⟩]
  · rw [e4, hI_sR, e3, hI_sI, if_pos ⟨rfl, rfl⟩]
  · rw [e4, hR_sR, if_pos ⟨rfl, rfl⟩]
theorem k_order (C : CR h x σ k) {nc nj t : Nat} (hn : σ 0 0 = nI nc) (hc6 : nc ≤ 6) (hj : σ 0 1 = nI nj) (h12 : nj ≤ 12) (ht : t ≤ 60) (h5 : σ 5 0 = nI t) (b w dd : Int32) (hO : OC h x σ k K (sp_order (σ 0) nj b w dd (σ 6) t)) : V_X6_order x b w dd h K := by
  obtain ⟨φ, y, ⟨v1, v2, v3⟩, ve⟩ := C.view
  have e3 : φ 6 3 = σ 0 0 := v1 0 (by decide)
  unfold V_X6_order V_X6_order_34
  unfold sp_order at hO
  rw [k_isCase y (e3.trans hn) hc6, e3]
  refine ⟨C.n.1, ?_⟩
  by_cases c1 : badC (σ 0) b
  · rw [if_pos c1] at hO
    rw [if_pos c1]
    exact ⟨fun z => absurd rfl z, fun _ => hO.no (FR.rf h) C⟩
  · rw [if_neg c1] at hO
    rw [if_neg c1]
    refine ⟨fun _ => ?_, fun z => absurd z ne01⟩
    by_cases c2 : w < 10 ∨ 150 < w
    · rw [if_pos c2] at hO
      have done : K (-2) h := hO.no (FR.rf h) C
      refine ⟨fun _ => done, fun z => ⟨fun _ => done, fun z2 => absurd c2 (fun q => q.elim z z2)⟩⟩
    · rw [if_neg c2] at hO
      refine ⟨fun z => absurd (Or.inl z) c2, fun _ => ⟨fun z => absurd (Or.inr z) c2, fun _ => ?_⟩⟩
      by_cases c3 : dd < 0 ∨ 9999 < dd
      · rw [if_pos c3] at hO
        have done : K (-2) h := hO.no (FR.rf h) C
        exact ⟨fun _ => done, fun z => ⟨fun z2 => absurd c3 (fun q => q.elim z (fun q => absurd z2 (Int32.not_le.mpr q))), fun _ => done⟩⟩
      · rw [if_neg c3] at hO
        have kd : hK h (hR h x 0) = 1 := C.1.1.1 1 rfl
        refine ⟨fun z => absurd (Or.inl z) c3, fun _ => ⟨fun _ => ⟨C.n.1, kd, k_findFault C ht h5 ?_⟩, fun z => absurd (Int32.not_lt.mp (fun q => c3 (Or.inr q))) z⟩⟩
        cases ef : flt (σ 6) t true 0 with
        | some i =>
          rw [ef] at hO
          have hi := flt_le _ _ _ _ ef
          have hne : ¬ nI i = (-1 : Int32) := by
            intro q
            have := congrArg Int32.toInt q
            rw [nI_toInt (by omega)] at this
            have e : (-1 : Int32).toInt = -1 := by decide
            omega
          exact ⟨fun q => absurd q hne, fun _ => hO.no (FR.rf h) C⟩
        | none =>
          rw [ef] at hO
          have hF := flt_FF ht ef
          have hO' : OC h x σ k K (sp_ord (σ 0) nj b w dd (σ 6) t) := hO
          unfold sp_ord at hO'
          refine ⟨fun _ q1 n1 z1 h3 e3' => ?_, fun q => absurd rfl q⟩
          have o3 : Old h h3 := by rw [e3']; exact (Old.rf h).n z1
          have ox := o3 x (by rw [C.n.1]; decide)
          refine ⟨ox.1.trans C.n.1, n1, ?_⟩
          rw [ox.2.2.2]
          refine k_lyInit n1 z1 e3' hF ⟨kd, C.1.1.1 21 rfl, C.1.1.2 21 (by decide)⟩ (C.2.1.1.trans h5) (fun i hi => C.2.1.2.1 i (by omega)) (fun h4 o4 k46 kq1 v8 hLay => ⟨kq1, ?_⟩)
          have C4 := C.old o4 k46
          have f4 : FR h h4 := o4.fr
          rw [v8]
          cases et : (lay (σ 6) w t).1.2.2.2 with
          | true =>
            rw [if_pos et] at hO'
            exact ⟨fun q => absurd q ne01, fun _ => hO'.no f4 C4⟩
          | false =>
            rw [if_neg (by rw [et]; decide)] at hO'
            have L4 := hLay et
            refine ⟨fun _ => ⟨C4.n.1, C4.n.2.1, ?_⟩, fun q => absurd rfl q⟩
            rw [show hI h4 (hR h4 x 1) 4 = nI nj from (C4.n.2.2 1 (by decide)).trans hj, show (nI nj < 12 ↔ nj < 12) from nI_ltI (b := 12) (by omega) (by decide)]
            refine ⟨fun q => ⟨C4.n.1, ?_⟩, fun q => ?_⟩
            · rw [if_neg (show ¬ nj = 12 by omega)] at hO'
              refine k_act C4 (fun g0 g1 f2 ce S1 fin => ?_)
              have k23 := g1.2.2.1.1
              have y0 : XB g0 x (hR g0 x 2) (fun n i => hI g0 (xc g0 x (hR g0 x 2) n) i) g0 := XB.of g1.1 (by rw [k23]; rfl)
              refine ⟨g1.kx, g1.kn, g1.kx, g1.kn, g1.kn, fun h6 e6 => ?_⟩
              rw [show hI g0 (hR g0 x 1) 4 = nI nj from (S1.2.1 1 (by decide)).trans hj, nI_1] at e6
              rw [show hI g0 (hR g0 x 1) 4 = nI nj from (S1.2.1 1 (by decide)).trans hj]
              have y6 := y0.put 6 (Or.inl rfl) (v := nI (nj + 1)) (i := 4) e6
              have m6 : Mv g0 x h6 := (Mv.rf g1).xb g1 y0 y6 (fun n hn => by funext i; rw [up_f (by omega)]) (Or.inr (by funext i; rw [up_f (by omega)]))
              obtain ⟨u1, u2, u3⟩ := m6.k7 g1
              refine ⟨u1, fun q2 n2 z2 h7 e7 q3 n3 z3 h8 e8 => ⟨n3, ?_⟩⟩
              have m7 : Mv g0 x h7 := by rw [e7]; exact m6.n z2 (by decide) g1
              have m8 : Mv g0 x h8 := by rw [e8]; exact m7.n z3 (by decide) g1
              have z20 := m6.z z2
              have z30 := m7.z z3
              have d23 : q2 ≠ q3 := fun e => by rw [← e, e7, hK_nN, if_pos rfl] at z3; omega
              have k8q3 : hK h8 q3 = 4 := by rw [e8, hK_nN, if_pos rfl]
              have k8q2 : hK h8 q2 = 2 := by rw [e8, hK_nN, if_neg d23, e7, hK_nN, if_pos rfl]
              refine k_oInit g1 m8 n3 z30 k8q3 (fun h9 m9 k9 l9 w9 i0 i1 i2 r3 q4 n4 z4 h10 e10 => ⟨n2, ?_⟩)
              have m10 : Mv g0 x h10 := by rw [e10]; exact m9.n z4 (by decide) g1
              have z40 := m9.z z4
              have d24 : q2 ≠ q4 := fun e => by rw [← e, k9, k8q2] at z4; omega
              have d34 : q3 ≠ q4 := fun e => by rw [← e, k9, k8q3] at z4; omega
              have k10q2 : hK h10 q2 = 2 := by rw [e10, hK_nN, if_neg d24, k9]; exact k8q2
              refine k_jInitM g1 m10 n2 z20 k10q2 (fun h11 m11 k11 l11 w11 s0 s1 s2 s3 => ⟨by rw [u2]; exact (m11.k7 g1).2.2, ?_⟩)
              rw [u2]
              have k22 := (g1.2.1.1 _ g1.kn).2.2.1
              have nr : ∀ c, hK g0 c = 0 → hR g0 (hR g0 x 1) 2 ≠ c := fun c hc e => by rw [← e, k22] at hc; omega
              have r6 : ∀ c i, hR h6 c i = hR g0 c i := fun c i => by rw [e6]; rfl
              refine k_pJob g1 m11 (fun i => ?_) (Old.rf h11) (fun _ z => z) (by rw [k11]; exact k10q2) q (fun h12' m12 k12 l12 v12 r12 ht' => ?_)
              · rw [(w11 _ (nr _ z20)).2, e10, hR_nN, if_neg (nr _ z40), (w9 _ (nr _ z30)).2, e8, hR_nN, if_neg (nr _ z30), e7, hR_nN, if_neg (nr _ z20), r6]
              · have f12 := m12.fr g1
                have rO : ∀ c, hK g0 c = 0 → ∀ i, hR h12' c i = hR h11 c i := fun c hc => r12 c (nr c hc).symm
                have kO : ∀ c, hK h12' c = hK h10 c := fun c => (k12 c).trans (k11 c)
                have new : JT (ordR (σ 0) nj b w dd (σ 6) t) nj ∧ JobN h12' (ordR (σ 0) nj b w dd (σ 6) t) nj q2 := by
                  obtain ⟨a0, a1, a2, a3, a4, a5, a6⟩ := @ordR_h (σ 0) nj t b w dd (σ 6)
                  have eT : ∀ i, i < t → σ 6 i = jtx (ordR (σ 0) nj b w dd (σ 6) t) nj i := fun i hi => (ordR_t hi).symm
                  refine ⟨⟨by rw [ordR_l ht]; exact a6, by rw [ordR_l ht]; exact hF.congr eT⟩, ⟨by rw [kO]; exact k10q2, ?_, ?_, ?_, ?_⟩, n2⟩
                  · rw [rO _ z20, s0]
                    refine ⟨?_, ?_, ?_, ?_, ?_⟩
                    · rw [kO, e10, hK_nN, if_neg d34, k9]; exact k8q3
                    · rw [v12, (w11 _ d23.symm).1, e10, hI_nN, if_neg d34, i0, a0]
                    · rw [v12, (w11 _ d23.symm).1, e10, hI_nN, if_neg d34, i1, a1]
                    · rw [v12, (w11 _ d23.symm).1, e10, hI_nN, if_neg d34, i2, a2]
                    · rw [rO _ z30, (w11 _ d23.symm).2, e10, hR_nN, if_neg d34, r3, a1, ordR_l ht]
                      exact (L4.fr (f2.tr f12)).congr eT
                  · rw [v12, s1, a3]
                  · rw [v12, s2, a4]
                  · rw [rO _ z20, s3]
                    have l0 : hL h12' q4 = 0 := by rw [l12, l11, e10, hL_nN, if_pos rfl]
                    refine ⟨by rw [kO, e10, hK_nN, if_pos rfl], Or.inr l0, fun c s hc hs => ?_⟩
                    rw [l0, if_neg (Nat.not_lt_zero _)]
                    exact (ordR_z ht (by omega) (by omega)).symm
                refine oc_fin hO' ⟨(f4.tr f2).tr f12, fin h12' _ m12 (fun ρ' hp => ?_)⟩
                subst hp
                obtain ⟨⟨a1, -⟩, ⟨a3, -⟩, -⟩ := g1.2.1.1 _ g1.kn
                have vO : ∀ c, hK g0 c ≠ 0 → ∀ i, hI h12' c i = hI h6 c i := fun c hc i => by
                  rw [v12, (w11 c (fun e => hc (by rw [e]; exact z20))).1, e10, hI_nN, if_neg (fun e => hc (by rw [e]; exact z40)), (w9 c (fun e => hc (by rw [e]; exact z30))).1, e8, hI_nN, if_neg (fun e => hc (by rw [e]; exact z30)), e7, hI_nN, if_neg (fun e => hc (by rw [e]; exact z20))]
                refine st_put g1 S1 m12 (fun i hi => ?_) (fun i hi => ?_) (fun i hi => ?_) (fun i hi hne hl => ?_) ht' (fun i hi hne u hu => ordR_o ht (by omega) (by omega)) new
                · rw [vO _ (by rw [g1.kn]; decide), show hI h6 (hR g0 x 1) (i + 3) = _ from y6.I 6 rfl _]
                  by_cases e : i = 1
                  · subst e
                    rw [up_s]
                    exact (ur_s _ _ _).symm
                  · rw [up_i (by omega), ordR_o ht e (by omega)]
                    exact S1.2.1 i hi
                · rw [vO _ (by rw [a1]; decide), show hI h6 (hR g0 (hR g0 x 1) 0) i = _ from y6.I 35 rfl _, up_f (by decide), ordR_o ht (by omega) (by omega)]
                  exact S1.2.2.1 i hi
                · rw [vO _ (by rw [a3]; decide), show hI h6 (hR g0 (hR g0 x 1) 1) i = _ from y6.I 36 rfl _, up_f (by decide), ordR_o ht (by omega) (by omega)]
                  exact S1.2.2.2.1 i hi
                · rw [show ordR (σ 0) nj b w dd (σ 6) t 1 = nI (nj + 1) from ur_s _ _ _, nI_ltI (by omega) (by omega)] at hl
                  rw [hj, nI_ltI (by omega) (by omega)]
                  omega
            · rw [if_pos (show nj = 12 by omega)] at hO'
              exact hO'.no f4 C4
end CORD
