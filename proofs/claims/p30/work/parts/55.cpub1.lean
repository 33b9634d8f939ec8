/-! the class's calls: buy, addCase, pass, melt, meltBox -/
section CPUB1
variable {h : Hp} {x : Nat} {σ : Nat → Nat → Int32} {k : Nat}
/-- the row as the object's ints have it -/
def NoR (φ : Nat → Nat → Int32) (ρ : Row) : Prop := (∀ i, i < 8 → φ 6 (i + 3) = ρ i) ∧ (∀ i, i < 174 → φ 35 i = ρ (8 + i)) ∧ ∀ i, i < 29 → φ 36 i = ρ (182 + i)
theorem NoR.st {h1 h' : Hp} {q : Nat} {φ : Nat → Nat → Int32} {ρ ρ' : Row} (g : HS h1 x) (S : StR h1 (hR h1 x 1) ρ) (m : Mv h1 x h') (y : XB h1 x q φ h') (n : NoR φ ρ') (e : ∀ z, 211 ≤ z → ρ' z = ρ z) (e1 : ρ' 1 = ρ 1) : StR h' (hR h1 x 1) ρ' := by
  obtain ⟨n1, n2, n3⟩ := n
  obtain ⟨s1, s2, s3, s4, s5⟩ := S
  refine ⟨y.K 6 rfl, fun i hi => (y.I 6 rfl _).trans (n1 i hi), fun i hi => ?_, fun i hi => ?_, fun j hj hl => ?_⟩
  · rw [y.s.1]; exact (y.I 35 rfl i).trans (n2 i hi)
  · rw [y.s.1]; exact (y.I 36 rfl i).trans (n3 i hi)
  · rw [e1] at hl
    obtain ⟨t1, t2⟩ := s5 j hj hl
    rw [y.s.1, y.s.1]
    exact ⟨(JT.same (fun w _ => e _ (by omega)) t1).2.2, (t2.fr (m.fr g)).same (fun w _ => e _ (by omega)) t1⟩
theorem CR.view (C : CR h x σ k) : ∃ φ, XB h x (hR h x 2) φ h ∧ NoR φ (σ 0) ∧ ∀ n, xk n = true → ∀ i, φ n i = hI h (xc h x 0 n) i := by
  have k23 := C.1.2.2.1.1
  refine ⟨_, XB.of C.1.1 (by rw [k23]; rfl), ⟨C.2.2.2.1, C.2.2.2.2.1, C.2.2.2.2.2.1⟩, fun n hn i => ?_⟩
  rw [xc_q _ hn]
theorem k_actN {K : Hp → Prop} (C : CR h x σ k)
    (kk : ∀ h1 φ1, XB h1 x (hR h1 x 2) φ1 h1 → FR h h1 → NoR φ1 (σ 0) → (∀ n, xk n = true → n ≠ 7 → ∀ i, φ1 n i = hI h (xc h x 0 n) i) →
      (∀ h' φ' (P : Row → Prop), XB h1 x (hR h1 x 2) φ' h' → (∀ n, n = 7 ∨ n = 1 ∨ n = 21 ∨ n = 20 → φ' n = φ1 n) → (∀ ρ', P ρ' → NoR φ' ρ' ∧ (∀ z, 211 ≤ z → ρ' z = σ 0 z) ∧ ρ' 1 = σ 0 1) → FR h h' ∧ ∀ σ', Act σ k P σ' → CR h' x σ' (rk k)) → K h1) : V_X6_recordState x h K := by
  refine k_act C (fun h1 g1 f1 ce Sn fin => ?_)
  have k23 := g1.2.2.1.1
  have y1 : XB h1 x (hR h1 x 2) (fun n i => hI h1 (xc h1 x (hR h1 x 2) n) i) h1 := XB.of g1.1 (by rw [k23]; rfl)
  refine kk h1 _ y1 f1 ⟨Sn.2.1, Sn.2.2.1, Sn.2.2.2.1⟩ (fun n hn h7 i => ?_) (fun h' φ' P y' e' hP => ?_)
  · show hI h1 (xc h1 x (hR h1 x 2) n) i = _
    rw [xc_q _ hn, (ce n hn).1, (ce n hn).2 h7]
  · have m := (Mv.rf g1).xb g1 y1 y' (fun n hn => e' n (by omega)) (Or.inr (e' 20 (by omega)))
    exact ⟨f1.tr (m.fr g1), fin h' P m (fun ρ' hp => NoR.st g1 Sn m y' (hP ρ' hp).1 (hP ρ' hp).2.1 (hP ρ' hp).2.2)⟩
theorem i8 {p : Nat → Prop} (h0 : p 0) (h1 : p 1) (h2 : p 2) (h3 : p 3) (h4 : p 4) (h5 : p 5) (h6 : p 6) (h7 : p 7) : ∀ i, i < 8 → p i := fun i hi => by
  rcases (by omega : i = 0 ∨ i = 1 ∨ i = 2 ∨ i = 3 ∨ i = 4 ∨ i = 5 ∨ i = 6 ∨ i = 7) with e | e | e | e | e | e | e | e <;> subst e <;> assumption
theorem oc_fin {K : Int32 → Hp → Prop} {r : Int32} {P : Row → Prop} {h' : Hp} (o : OC h x σ k K (did r P)) (z : FR h h' ∧ ∀ σ', Act σ k P σ' → CR h' x σ' (rk k)) : K r h' := o.did z.1 z.2
variable {K : Int32 → Hp → Prop}
theorem CR.n (C : CR h x σ k) : hK h x = 7 ∧ hK h (hR h x 1) = 6 ∧ ∀ i, i < 8 → hI h (hR h x 1) (i + 3) = σ 0 i := ⟨C.1.kx, C.1.kn, C.2.2.2.1⟩
theorem k_buy (C : CR h x σ k) (a : Int32) (hO : OC h x σ k K (sp_buy (σ 0) a)) : V_X6_buy x a h K := by
  obtain ⟨c1, c2, c3⟩ := C.n
  unfold V_X6_buy V_X6_buy_12
  unfold sp_buy at hO
  rw [show hI h (hR h x 1) 5 = σ 0 2 from c3 2 (by decide)]
  by_cases b1 : a < 1
  · rw [if_pos (Or.inl b1)] at hO
    exact ⟨fun _ => hO.no (FR.rf h) C, fun z => absurd b1 z⟩
  · by_cases b2 : a ≤ 20000
    · rw [if_neg (fun z => z.elim b1 (fun z => absurd b2 (Int32.not_le.mpr z)))] at hO
      refine ⟨fun z => absurd z b1, fun _ => ⟨fun _ => ⟨c1, c2, fun b3 => ⟨c1, ?_⟩, fun b3 => ?_⟩, fun z => absurd b2 z⟩⟩
      · rw [if_pos b3] at hO
        refine k_actN C (fun h1 φ1 y1 f1 n1 e1 fin => ?_)
        obtain ⟨s1, s2, s3⟩ := n1
        simp only [y1.s, true_and]
        intro h2 e2
        have y2 := y1.put 6 (Or.inl rfl) e2
        simp only [y2.s, true_and]
        intro h3 e3
        have y3 := y2.put 6 (Or.inl rfl) e3
        simp only [y3.s, true_and]
        rw [up_i (by decide), up_s, show φ1 6 5 = σ 0 2 from s1 2 (by decide)]
        refine oc_fin hO (fin h3 _ _ y3 (fun n hn => by funext i; rw [up_f (by omega), up_f (by omega)]) (fun ρ' hp => ?_))
        subst hp
        refine ⟨⟨i8 ?_ ?_ ?_ ?_ ?_ ?_ ?_ ?_, fun i hi => ?_, fun i hi => ?_⟩, fun z hz => by rw [ur_n (by omega), ur_n (by omega)], by rw [ur_n (by omega), ur_n (by omega)]⟩
        · exact (up_i (by decide)).trans ((up_i (by decide)).trans (s1 0 (by decide)))
        · exact (up_i (by decide)).trans ((up_i (by decide)).trans (s1 1 (by decide)))
        · exact (up_i (by decide)).trans ((up_s _ _ _ _).trans (by rw [show φ1 6 5 = σ 0 2 from s1 2 (by decide), ur_n (by decide), ur_s]))
        · exact (up_i (by decide)).trans ((up_i (by decide)).trans (s1 3 (by decide)))
        · exact (up_s _ _ _ _).trans (by rw [up_i (by decide), show φ1 6 7 = σ 0 4 from s1 4 (by decide), ur_s])
        · exact (up_i (by decide)).trans ((up_i (by decide)).trans (s1 5 (by decide)))
        · exact (up_i (by decide)).trans ((up_i (by decide)).trans (s1 6 (by decide)))
        · exact (up_i (by decide)).trans ((up_i (by decide)).trans (s1 7 (by decide)))
        · rw [up_f (by decide), up_f (by decide), ur_n (by omega), ur_n (by omega)]; exact s2 i hi
        · rw [up_f (by decide), up_f (by decide), ur_n (by omega), ur_n (by omega)]; exact s3 i hi
      · rw [if_neg b3] at hO
        exact hO.no (FR.rf h) C
    · rw [if_pos (Or.inr (Int32.not_le.mp b2))] at hO
      exact ⟨fun z => absurd z b1, fun _ => ⟨fun z => absurd z b2, fun _ => hO.no (FR.rf h) C⟩⟩
theorem k_pass (C : CR h x σ k) (a : Int32) (hO : OC h x σ k K (sp_pass (σ 0) a)) : V_X6_pass x a h K := by
  unfold V_X6_pass V_X6_pass_11
  unfold sp_pass at hO
  by_cases b1 : a < 1
  · rw [if_pos (Or.inl b1)] at hO
    exact ⟨fun _ => hO.no (FR.rf h) C, fun z => absurd b1 z⟩
  · by_cases b2 : a ≤ 30
    · rw [if_neg (fun z => z.elim b1 (fun z => absurd b2 (Int32.not_le.mpr z)))] at hO
      refine ⟨fun z => absurd z b1, fun _ => ⟨fun _ => ⟨C.n.1, ?_⟩, fun z => absurd b2 z⟩⟩
      refine k_actN C (fun h1 φ1 y1 f1 n1 e1 fin => ?_)
      obtain ⟨s1, s2, s3⟩ := n1
      simp only [y1.s, true_and]
      intro h2 e2
      have y2 := y1.put 6 (Or.inl rfl) e2
      simp only [y2.s, true_and]
      rw [up_s, show φ1 6 6 = σ 0 3 from s1 3 (by decide)]
      refine oc_fin hO (fin h2 _ _ y2 (fun n hn => by funext i; rw [up_f (by omega)]) (fun ρ' hp => ?_))
      subst hp
      refine ⟨⟨i8 ?_ ?_ ?_ ?_ ?_ ?_ ?_ ?_, fun i hi => ?_, fun i hi => ?_⟩, fun z hz => by rw [ur_n (by omega)], by rw [ur_n (by omega)]⟩
      · exact (up_i (by decide)).trans (s1 0 (by decide))
      · exact (up_i (by decide)).trans (s1 1 (by decide))
      · exact (up_i (by decide)).trans (s1 2 (by decide))
      · exact (up_s _ _ _ _).trans (by rw [show φ1 6 6 = σ 0 3 from s1 3 (by decide), ur_s])
      · exact (up_i (by decide)).trans (s1 4 (by decide))
      · exact (up_i (by decide)).trans (s1 5 (by decide))
      · exact (up_i (by decide)).trans (s1 6 (by decide))
      · exact (up_i (by decide)).trans (s1 7 (by decide))
      · rw [up_f (by decide), ur_n (by omega)]; exact s2 i hi
      · rw [up_f (by decide), ur_n (by omega)]; exact s3 i hi
    · rw [if_pos (Or.inr (Int32.not_le.mp b2))] at hO
      exact ⟨fun z => absurd z b1, fun _ => ⟨fun z => absurd z b2, fun _ => hO.no (FR.rf h) C⟩⟩
theorem k_addCase (C : CR h x σ k) {nc : Nat} (hn : σ 0 0 = nI nc) (h6 : nc ≤ 6) (hO : OC h x σ k K (sp_addCase (σ 0))) : V_X6_addCase x h K := by
  obtain ⟨c1, c2, c3⟩ := C.n
  unfold V_X6_addCase
  unfold sp_addCase at hO
  rw [show hI h (hR h x 1) 3 = σ 0 0 from c3 0 (by decide), hn]
  rw [hn] at hO
  refine ⟨c1, c2, fun b => ⟨c1, ?_⟩, fun b => ?_⟩
  · have b' : nc < 6 := by
      rw [Int32.lt_iff_toInt_lt, nI_toInt (by omega)] at b
      have : (6 : Int32).toInt = 6 := by decide
      omega
    rw [if_neg (by rw [q6 (by omega)]; omega)] at hO
    refine k_actN C (fun h1 φ1 y1 f1 n1 e1 fin => ?_)
    obtain ⟨s1, s2, s3⟩ := n1
    simp only [y1.s, true_and]
    intro h2 e2
    have y2 := y1.put 6 (Or.inl rfl) e2
    simp only [y2.s, true_and]
    rw [up_s, show φ1 6 3 = σ 0 0 from s1 0 (by decide), hn, nI_1, show (nI (nc + 1) - 1) = nI nc from pk_sub (a := nc + 1) (b := 1) (by omega)]
    refine oc_fin hO (fin h2 _ _ y2 (fun n hn => by funext i; rw [up_f (by omega)]) (fun ρ' hp => ?_))
    subst hp
    refine ⟨⟨i8 ?_ ?_ ?_ ?_ ?_ ?_ ?_ ?_, fun i hi => ?_, fun i hi => ?_⟩, fun z hz => by rw [ur_n (by omega)], by rw [ur_n (by omega)]⟩
    · exact (up_s _ _ _ _).trans (by rw [show φ1 6 3 = σ 0 0 from s1 0 (by decide), hn, ur_s])
    · exact (up_i (by decide)).trans (s1 1 (by decide))
    · exact (up_i (by decide)).trans (s1 2 (by decide))
    · exact (up_i (by decide)).trans (s1 3 (by decide))
    · exact (up_i (by decide)).trans (s1 4 (by decide))
    · exact (up_i (by decide)).trans (s1 5 (by decide))
    · exact (up_i (by decide)).trans (s1 6 (by decide))
    · exact (up_i (by decide)).trans (s1 7 (by decide))
    · rw [up_f (by decide), ur_n (by omega)]; exact s2 i hi
    · rw [up_f (by decide), ur_n (by omega)]; exact s3 i hi
  · have b' : nc = 6 := by
      rw [Int32.lt_iff_toInt_lt, nI_toInt (by omega)] at b
      have : (6 : Int32).toInt = 6 := by decide
      omega
    rw [if_pos (by rw [b']; rfl)] at hO
    exact hO.no (FR.rf h) C
end CPUB1
