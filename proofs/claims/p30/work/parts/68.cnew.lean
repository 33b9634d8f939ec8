/-! the class: a new job is put into the present state; print -/
theorem Mv.old {h h' h2 : Hp} {x : Nat} (m : Mv h x h') (o : Old h' h2) (k6 : ∀ c, hK h2 c = 6 → hK h' c = 6) (g : HS h x) : Mv h x h2 := by
  obtain ⟨m1, m2, m3⟩ := m
  have k22 := (g.2.1.1 _ g.kn).2.2.1
  have ob := o (hR h (hR h x 1) 2) (by rw [(m1 _ (by rw [k22]; decide)).1, k22]; decide)
  refine ⟨fun c hc => ?_, fun i hi => ?_, fun c hc => m3 c (k6 c hc)⟩
  · obtain ⟨a1, a2, a3, a4⟩ := m1 c hc
    obtain ⟨b1, b2, b3, b4⟩ := o c (by rw [a1]; exact hc)
    exact ⟨b1.trans a1, b2.trans a2, fun z i => (b3 i).trans (a3 z i), fun z i => (b4 i).trans (a4 z i)⟩
  · rw [ob.2.2.2]
    rcases m2 i hi with z | z
    · exact Or.inl z
    · exact Or.inr (by rw [(o _ (by rw [z]; decide)).1]; exact z)
theorem Mv.k7 {h h' : Hp} {x : Nat} (m : Mv h x h') (g : HS h x) : hK h' x = 7 ∧ hR h' x 1 = hR h x 1 ∧ hK h' (hR h x 1) = 6 :=
  ⟨(m.1 x (by rw [g.kx]; decide)).1.trans g.kx, (m.cells g).1 1, (m.1 _ (by rw [g.kn]; decide)).1.trans g.kn⟩
/-- what Mv moved is free where it was free -/
theorem Mv.z {h h' : Hp} {x c : Nat} (m : Mv h x h') (hc : hK h' c = 0) : hK h c = 0 := by
  by_cases e : hK h c = 0
  · exact e
  · rw [(m.1 c e).1] at hc; exact hc
theorem Old.z {h h' : Hp} {c : Nat} (m : Old h h') (hc : hK h' c = 0) : hK h c = 0 := by
  by_cases e : hK h c = 0
  · exact e
  · rw [(m c e).1] at hc; exact hc
theorem k_jInit {hA hB : Hp} {q o t : Nat} {st pr : Int32} {K : Hp → Prop} (o1 : Old hA hB) (hq : q ≠ 0) (hq0 : hK hA q = 0) (hqk : hK hB q = 2)
    (kk : ∀ h4, Old hA h4 → (∀ c, hK h4 c = hK hB c) → (∀ c, hL h4 c = hL hB c) → (∀ c, c ≠ q → (∀ i, hI h4 c i = hI hB c i) ∧ ∀ i, hR h4 c i = hR hB c i) → hR h4 q 0 = o → hI h4 q 1 = st → hI h4 q 2 = pr → hR h4 q 3 = t → K h4) : V_X1_init q o st pr t hB K := by
  refine ⟨hq, hqk, fun h1 e1 => ⟨by rw [e1]; exact hqk, fun h2 e2 => ⟨by rw [e2, e1]; exact hqk, fun h3 e3 => ⟨by rw [e3, e2, e1]; exact hqk, fun h4 e4 => ?_⟩⟩⟩⟩
  refine kk h4 ?_ (fun c => by rw [e4, e3, e2, e1]; rfl) (fun c => by rw [e4, e3, e2, e1]; rfl) (fun c hc => ⟨fun i => ?_, fun i => ?_⟩) ?_ ?_ ?_ ?_
  · rw [e4, e3, e2, e1]
    exact (((o1.r hq0).i hq0).i hq0).r hq0
  · rw [e4, hI_sR, e3, hI_sI, if_neg (fun z => hc z.1), e2, hI_sI, if_neg (fun z => hc z.1), e1, hI_sR]
  · rw [e4, hR_sR, if_neg (fun z => hc z.1), e3, hR_sI, e2, hR_sI, e1, hR_sR, if_neg (fun z => hc z.1)]
  · rw [e4, hR_sR, if_neg (fun z => by omega), e3, hR_sI, e2, hR_sI, e1, hR_sR, if_pos ⟨rfl, rfl⟩]
  · rw [e4, hI_sR, e3, hI_sI, if_neg (fun z => by omega), e2, hI_sI, if_pos ⟨rfl, rfl⟩]
  · rw [e4, hI_sR, e3, hI_sI, if_pos ⟨rfl, rfl⟩]
  · rw [e4, hR_sR, if_pos ⟨rfl, rfl⟩]
theorem k_pJob {h1 hA h4 : Hp} {x q j : Nat} {K : Hp → Prop} (g : HS h1 x) (m : Mv h1 x hA) (R : ∀ i, hR hA (hR h1 (hR h1 x 1) 2) i = hR h1 (hR h1 (hR h1 x 1) 2) i) (o : Old hA h4) (k6 : ∀ c, hK h4 c = 6 → hK hA c = 6) (hqk : hK h4 q = 2) (hj : j < 12)
    (kk : ∀ h5, Mv h1 x h5 → (∀ c, hK h5 c = hK h4 c) → (∀ c, hL h5 c = hL h4 c) → (∀ c i, hI h5 c i = hI h4 c i) → (∀ c, c ≠ hR h1 (hR h1 x 1) 2 → ∀ i, hR h5 c i = hR h4 c i) → (∀ i, hR h5 (hR h1 (hR h1 x 1) 2) i = if i = j then q else hR h1 (hR h1 (hR h1 x 1) 2) i) → K h5) : V_X5_putJob (hR h1 x 1) (nI j) q h4 K := by
  have m4 := m.old o k6 g
  have s6 := (m4.k7 g).2.2
  have k22 := (g.2.1.1 _ g.kn).2.2.1
  have l12 := (g.2.1.1 _ g.kn).2.2.2.1
  have rn := (m4.cells g).2.2.1
  have b22 := m4.1 _ (show hK h1 (hR h1 (hR h1 x 1) 2) ≠ 0 by rw [k22]; decide)
  have oA := o (hR h1 (hR h1 x 1) 2) (by rw [(m.1 _ (show hK h1 (hR h1 (hR h1 x 1) 2) ≠ 0 by rw [k22]; decide)).1, k22]; decide)
  unfold V_X5_putJob V_X5_putJob_17
  rw [c12 (by omega), rn, b22.1, b22.2.1, l12, ix_nI (by omega)]
  refine ⟨fun z => absurd z (cn0 (by omega)), fun _ => ⟨fun z => absurd z (by omega), fun _ => ⟨s6, k22, vin hj (by decide), Or.inr hqk, fun h5 e5 => ?_⟩⟩⟩
  refine kk h5 (by rw [e5]; exact m4.j hqk) (fun c => by rw [e5]; rfl) (fun c => by rw [e5]; rfl) (fun c i => by rw [e5]; rfl) (fun c hc i => ?_) (fun i => ?_)
  · rw [e5, hR_sR, if_neg (fun z => hc z.1)]
  · rw [e5, hR_sR]
    by_cases e : i = j
    · rw [if_pos ⟨rfl, e⟩, if_pos e]
    · rw [if_neg (fun z => e z.2), if_neg e, oA.2.2.2, R]
/-- the present state behind a new job j -/
theorem st_put {h1 h5 : Hp} {x q j : Nat} {ρ ρ' : Row} (g : HS h1 x) (S : StR h1 (hR h1 x 1) ρ) (m : Mv h1 x h5) (v1 : ∀ i, i < 8 → hI h5 (hR h1 x 1) (i + 3) = ρ' i) (v2 : ∀ i, i < 174 → hI h5 (hR h1 (hR h1 x 1) 0) i = ρ' (8 + i)) (v3 : ∀ i, i < 29 → hI h5 (hR h1 (hR h1 x 1) 1) i = ρ' (182 + i))
    (hn : ∀ i, i < 12 → i ≠ j → nI i < ρ' 1 → nI i < ρ 1) (ht : ∀ i, hR h5 (hR h1 (hR h1 x 1) 2) i = if i = j then q else hR h1 (hR h1 (hR h1 x 1) 2) i) (he : ∀ i, i < 12 → i ≠ j → ∀ w, w < 272 → jb ρ' i w = jb ρ i w) (new : JT ρ' j ∧ JobN h5 ρ' j q) : StR h5 (hR h1 x 1) ρ' := by
  obtain ⟨s1, s2, s3, s4, s5⟩ := S
  have rn := (m.cells g).2.2.1
  refine ⟨(m.k7 g).2.2, v1, fun i hi => by rw [rn]; exact v2 i hi, fun i hi => by rw [rn]; exact v3 i hi, fun i hi hl => ?_⟩
  rw [rn, ht]
  by_cases e : i = j
  · rw [if_pos e, e]; exact new
  · rw [if_neg e]
    obtain ⟨t1, t2⟩ := s5 i hi (hn i hi e hl)
    exact ⟨(JT.same (fun w _ => he i hi e w (by omega)) t1).2.2, (t2.fr (m.fr g)).same (he i hi e) t1⟩
section CPRINT
variable {h : Hp} {x : Nat} {σ : Nat → Nat → Int32} {k : Nat} {K : Int32 → Hp → Prop}
theorem late_C {ρ : Row} {j : Nat} {v d : Int32} (h4 : jb ρ j 4 = v) (hv : ¬ v = -5) (h2 : jb ρ j 2 = d) : lateC ρ j = if 0 ≤ v - d then v - d else 0 := by
  unfold lateC
  rw [h4, if_neg hv, h2]
  by_cases e : 0 < v - d
  · rw [if_pos e, if_pos (Int32.le_of_lt e)]
  · rw [if_neg e]
    by_cases e2 : 0 ≤ v - d
    · rw [if_pos e2]
      exact Int32.le_antisymm e2 (Int32.not_lt.mp e)
    · rw [if_neg e2]
theorem k_print (C : CR h x σ k) {nj : Nat} (hj : σ 0 1 = nI nj) (h12 : nj ≤ 12) (hd : ¬ σ 0 3 = -5) (a : Int32) (hO : OC h x σ k K (sp_print (σ 0) a)) : V_X6_print x a h K := by
  unfold V_X6_print
  unfold sp_print at hO
  refine ⟨C.n.1, C.n.2.1, k_findJob C hj h12 a (fun hb => ?_) (fun j j1 j2 ja hb hbi jt J J0 => ?_)⟩
  · rw [if_pos hb] at hO
    exact ⟨fun z => absurd rfl z, fun _ => hO.no (FR.rf h) C⟩
  · rw [if_neg hb, hbi] at hO
    generalize hR h (hR h (hR h x 1) 2) j = c at J J0 ⊢
    refine ⟨fun _ => ⟨J.1, ?_⟩, fun z => absurd z J0⟩
    rw [J.2.2.1]
    refine ⟨fun q => ⟨C.n.1, ?_⟩, fun q => ?_⟩
    · rw [if_pos q] at hO
      subst ja
      refine k_act C (fun h1 g1 f1 ce S1 fin q1 n1 z1 h3 e3 => ?_)
      have J1 := J.fr f1
      have o3 : Old h1 h3 := by rw [e3]; exact (Old.rf h1).n z1
      have k3 : ∀ c, hK h3 c = 6 → hK h1 c = 6 := fun c hc => by
        rw [e3, hK_nN] at hc
        by_cases e : c = q1
        · rw [if_pos e] at hc; omega
        · rw [if_neg e] at hc; exact hc
      have m3 := (Mv.rf g1).old o3 k3 g1
      have oc := o3 c (by rw [J1.1]; decide)
      have os := o3 _ (show hK h1 (hR h1 x 1) ≠ 0 by rw [g1.kn]; decide)
      obtain ⟨u1, u2, u3⟩ := m3.k7 g1
      have kq : hK h3 q1 = 2 := by rw [e3, hK_nN, if_pos rfl]
      refine ⟨oc.1.trans J1.1, u1, by rw [u2]; exact u3, oc.1.trans J1.1, n1, ?_⟩
      rw [u2, os.2.2.1, show hI h1 (hR h1 x 1) 6 = σ 0 3 from S1.2.1 3 (by decide), oc.2.2.2, oc.2.2.2]
      refine k_jInit o3 n1 z1 kq (fun h4 o4 k4 l4 w4 r0 i1 i2 r3 => ?_)
      have k46 : ∀ c, hK h4 c = 6 → hK h1 c = 6 := fun c hc => k3 c (by rw [← k4]; exact hc)
      have m4 := (Mv.rf g1).old o4 k46 g1
      obtain ⟨t1, t2, t3⟩ := m4.k7 g1
      refine ⟨t1, by rw [t2]; exact t3, ?_⟩
      rw [t2]
      refine k_pJob g1 (Mv.rf g1) (fun _ => rfl) o4 k46 (by rw [k4]; exact kq) j2 (fun h5 m5 k5 l5 v5 r5 ht => ?_)
      have k22 := (g1.2.1.1 _ g1.kn).2.2.1
      have k5q : hK h5 q1 = 2 := by rw [k5, k4]; exact kq
      have nq : q1 ≠ hR h1 (hR h1 x 1) 2 := fun e => by rw [← e, z1] at k22; omega
      have f5 := m5.fr g1
      generalize hRd : ur (ur (ur (σ 0) (211 + 272 * j + 3) 2) (211 + 272 * j + 4) (σ 0 3)) (211 + 272 * j + 5) (late (σ 0) j) = R at hO
      have eR : ∀ y, y ≠ 211 + 272 * j + 3 → y ≠ 211 + 272 * j + 4 → y ≠ 211 + 272 * j + 5 → R y = σ 0 y := fun y a b d => by rw [← hRd, ur_n d, ur_n b, ur_n a]
      have eR3 : jb R j 3 = 2 := by unfold jb; rw [← hRd, ur_n (by omega), ur_n (by omega), ur_s]
      have eR4 : jb R j 4 = σ 0 3 := by unfold jb; rw [← hRd, ur_n (by omega), ur_s]
      have eRo : ∀ w, (w < 3 ∨ (6 ≤ w ∧ w < 67)) → jb R j w = jb (σ 0) j w := fun w hw => eR _ (by omega) (by omega) (by omega)
      have new : JT R j ∧ JobN h5 R j q1 := by
        refine ⟨(JT.same eRo jt).2.2, ⟨k5q, ?_, ?_, ?_, ?_⟩, n1⟩
        · rw [r5 q1 nq, r0]; exact (J1.2.1.fr f5).same eRo jt
        · rw [v5, i1, eR3]
        · rw [v5, i2, eR4]
        · rw [r5 q1 nq, r3]
          obtain ⟨y1, y2, y3⟩ := J1.2.2.2.2.fr f5
          exact ⟨y1, y2, fun cc s a b => by rw [show fm R j cc s = fm (σ 0) j cc s from eR _ (by omega) (by omega) (by omega)]; exact y3 cc s a b⟩
      refine ⟨k5q, (k_daysLate new.2.1).mpr ?_⟩
      rw [late_C eR4 hd (show jb R j 2 = jb (σ 0) j 2 from eRo 2 (by omega)), show (if 0 ≤ σ 0 3 - jb (σ 0) j 2 then σ 0 3 - jb (σ 0) j 2 else 0) = late (σ 0) j from rfl]
      refine oc_fin hO ⟨f1.tr f5, fin h5 _ m5 (fun ρ' hp => ?_)⟩
      subst hp
      have vO : ∀ c, hK h1 c ≠ 0 → ∀ i, hI h5 c i = hI h1 c i := fun c hc i => (v5 c i).trans ((o4 c hc).2.2.1 i)
      obtain ⟨⟨a1, -⟩, ⟨a3, -⟩, -⟩ := g1.2.1.1 _ g1.kn
      refine st_put g1 S1 m5 (fun i hi => ?_) (fun i hi => ?_) (fun i hi => ?_) (fun i _ _ hl => by rw [eR 1 (by omega) (by omega) (by omega)] at hl; exact hl) ht (fun i _ hne w hw => eR _ (by omega) (by omega) (by omega)) new
      · rw [vO _ (by rw [g1.kn]; decide), eR i (by omega) (by omega) (by omega)]; exact S1.2.1 i hi
      · rw [vO _ (by rw [a1]; decide), eR _ (by omega) (by omega) (by omega)]; exact S1.2.2.1 i hi
      · rw [vO _ (by rw [a3]; decide), eR _ (by omega) (by omega) (by omega)]; exact S1.2.2.2.1 i hi
    · rw [if_neg q] at hO
      exact hO.no (FR.rf h) C
end CPRINT
