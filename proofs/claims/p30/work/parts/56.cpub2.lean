/-! the class's calls: melt; the draft -/
section CPUB2
variable {h : Hp} {x : Nat} {σ : Nat → Nat → Int32} {k : Nat} {K : Int32 → Hp → Prop}
theorem k_melt (C : CR h x σ k) {nc : Nat} (hn : σ 0 0 = nI nc) (h6 : nc ≤ 6) (b s n : Int32) (hO : OC h x σ k K (sp_melt (σ 0) b s n)) : V_X6_melt x b s n h K := by
  obtain ⟨φ, y, ⟨v1, v2, v3⟩, ve⟩ := C.view
  have e3 : φ 6 3 = σ 0 0 := v1 0 (by decide)
  unfold V_X6_melt V_X6_melt_15 V_X6_melt_28
  unfold sp_melt at hO
  rw [k_isCase y (e3.trans hn) h6, e3]
  refine ⟨C.n.1, ?_⟩
  rcases badC_of hn h6 b with hb | ⟨c, hc1, hc2, rfl, hb, hbi⟩
  · rw [if_pos hb]
    rw [if_pos (Or.inl hb)] at hO
    exact ⟨fun _ => hO.no (FR.rf h) C, fun z => absurd rfl z⟩
  · rw [if_neg hb, k_isSort]
    refine ⟨fun z => absurd z ne01, fun _ => ?_⟩
    rcases badS_of s with hs | ⟨t, ht, rfl, hs, hsi⟩
    · rw [if_pos hs]
      rw [if_pos (Or.inr hs)] at hO
      exact ⟨fun z => absurd rfl z, fun _ => hO.no (FR.rf h) C⟩
    · rw [if_neg hs]
      rw [if_neg (fun z => z.elim hb hs), hbi, hsi] at hO
      refine ⟨fun _ => ?_, fun z => absurd z ne01⟩
      by_cases b1 : n < 1
      · rw [if_pos (Or.inl b1)] at hO
        exact ⟨fun _ => hO.no (FR.rf h) C, fun z => absurd b1 z⟩
      · by_cases b2 : n ≤ 99
        · rw [if_neg (fun z => z.elim b1 (fun z => absurd b2 (Int32.not_le.mpr z)))] at hO
          refine ⟨fun z => absurd z b1, fun _ => ⟨fun _ => ⟨C.n.1, C.n.2.1, ?_⟩, fun z => absurd b2 z⟩⟩
          rw [k_held y hc2 ht, v2 _ (by omega), show 8 + (29 * c + t) = 8 + 29 * c + t by omega]
          refine ⟨fun b3 => ⟨C.n.1, ?_⟩, fun b3 => ?_⟩
          · rw [if_pos b3] at hO
            refine k_actN C (fun h1 φ1 y1 f1 n1 e1 fin => ?_)
            obtain ⟨s1, s2, s3⟩ := n1
            simp only [y1.s, true_and]
            refine k_put y1 hc2 ht _ (fun h2 y2 => ?_)
            simp only [y2.s, true_and]
            rw [k_width ht]
            simp only [y2.s, true_and]
            intro h3 e3'
            have y3 := y2.put 6 (Or.inl rfl) e3'
            simp only [y3.s, true_and]
            intro h4 e4
            have y4 := y3.put 6 (Or.inl rfl) e4
            simp only [y4.s, true_and]
            have q5 : φ1 6 5 = σ 0 2 := s1 2 (by decide)
            have q10 : φ1 6 10 = σ 0 7 := s1 7 (by decide)
            have q35 : φ1 35 (29 * c + t) = σ 0 (8 + 29 * c + t) := by rw [s2 _ (by omega)]; congr 1; omega
            rw [up_i (by decide), up_s, up_f (by decide), q5]
            refine oc_fin hO (fin h4 _ _ y4 (fun n hn => by funext i; rw [up_f (by omega), up_f (by omega), up_f (by omega)]) (fun ρ' hp => ?_))
            subst hp
            refine ⟨⟨i8 ?_ ?_ ?_ ?_ ?_ ?_ ?_ ?_, fun i hi => ?_, fun i hi => ?_⟩, fun z hz => by rw [ur_n (by omega), ur_n (by omega), ur_n (by omega)], by rw [ur_n (by omega), ur_n (by omega), ur_n (by omega)]⟩
            · rw [ur_n (by omega), ur_n (by omega), ur_n (by omega)]
              exact (up_i (by decide)).trans ((up_i (by decide)).trans ((up_f (by decide)).trans (s1 0 (by decide))))
            · rw [ur_n (by omega), ur_n (by omega), ur_n (by omega)]
              exact (up_i (by decide)).trans ((up_i (by decide)).trans ((up_f (by decide)).trans (s1 1 (by decide))))
            · rw [ur_n (by omega), ur_s]
              exact (up_i (by decide)).trans ((up_s _ _ _ _).trans (by rw [up_f (by decide), q5]))
            · rw [ur_n (by omega), ur_n (by omega), ur_n (by omega)]
              exact (up_i (by decide)).trans ((up_i (by decide)).trans ((up_f (by decide)).trans (s1 3 (by decide))))
            · rw [ur_n (by omega), ur_n (by omega), ur_n (by omega)]
              exact (up_i (by decide)).trans ((up_i (by decide)).trans ((up_f (by decide)).trans (s1 4 (by decide))))
            · rw [ur_n (by omega), ur_n (by omega), ur_n (by omega)]
              exact (up_i (by decide)).trans ((up_i (by decide)).trans ((up_f (by decide)).trans (s1 5 (by decide))))
            · rw [ur_n (by omega), ur_n (by omega), ur_n (by omega)]
              exact (up_i (by decide)).trans ((up_i (by decide)).trans ((up_f (by decide)).trans (s1 6 (by decide))))
            · rw [ur_s]
              exact (up_s _ _ _ _).trans (by rw [up_i (by decide), up_f (by decide), q10])
            · rw [up_f (by decide), up_f (by decide), ur_n (by omega), ur_n (by omega)]
              by_cases e : i = 29 * c + t
              · rw [e, up_s, q35, show 8 + (29 * c + t) = 8 + 29 * c + t by omega, ur_s, ← Int32.sub_eq_add_neg]
              · rw [up_i e, ur_n (by omega)]; exact s2 i hi
            · rw [up_f (by decide), up_f (by decide), up_f (by decide), ur_n (by omega), ur_n (by omega), ur_n (by omega)]; exact s3 i hi
          · rw [if_neg b3] at hO
            exact hO.no (FR.rf h) C
        · rw [if_pos (Or.inr (Int32.not_le.mp b2))] at hO
          exact ⟨fun z => absurd z b1, fun _ => ⟨fun z => absurd z b2, fun _ => hO.no (FR.rf h) C⟩⟩
/-- the draft moves -/
theorem CR.dr {q : Nat} {φ φ' : Nat → Nat → Int32} {h' : Hp} (C : CR h x σ k) (hq : ¬ im (hK h q)) (y : XB h x q φ h) (y' : XB h x q φ' h') (e : ∀ n, n ≠ 1 → n ≠ 21 → φ' n = φ n) {σ' : Nat → Nat → Int32} (e5 : φ' 1 1 = σ' 5 0) (e6 : ∀ i, i < 60 → φ' 21 i = σ' 6 i) (es : ∀ f, f ≠ 5 → f ≠ 6 → σ' f = σ f) : CR h' x σ' k := by
  obtain ⟨g, ⟨v1, v2, v3, v4, v5⟩, S⟩ := C
  have fr : FR h h' := y'.fr0 hq
  have rr := y'.2.2.2.2.2.1
  have kk := y'.2.2.2.1
  have ll := y'.2.2.2.2.1
  have hh : ∀ i, hs h' x i = hs h x i := fun i => by unfold hs; rw [rr, rr]
  have ii : ∀ c, hK h c ≠ 1 → hK h c ≠ 21 → ∀ i, hI h' c i = hI h c i := fun c c1 c2 i => by
    by_cases w : ∀ n, (xk n = true ∨ n = 20) → c ≠ xc h x q n
    · exact y'.2.2.2.2.2.2 c w i
    · have ⟨n, w1⟩ := Classical.not_forall.mp w
      obtain ⟨w2, w3⟩ := Classical.not_imp.mp w1
      have w4 := Classical.not_not.mp w3
      rw [w4, y'.2.2.1 n w2, y.2.2.1 n w2, e n (fun z => ?_) (fun z => ?_)]
      · subst z; exact c1 (by rw [w4]; exact g.1.1 1 rfl)
      · subst z; exact c2 (by rw [w4]; exact g.1.1 21 rfl)
  have st : ∀ s ρ, StR h s ρ → StR h' s ρ := fun s ρ S' => by
    have s6 := S'.1
    obtain ⟨⟨a1, -⟩, ⟨a3, -⟩, a5, -⟩ := g.2.1.1 s s6
    exact S'.keep g.2.1 fr ((kk s).trans s6) (ii s (by rw [s6]; decide) (by rw [s6]; decide)) (rr s) (ii _ (by rw [a1]; decide) (by rw [a1]; decide)) (ii _ (by rw [a3]; decide) (by rw [a3]; decide)) (rr _)
  refine ⟨?_, ⟨?_, fun i hi => ?_, ⟨?_, ?_, v3.2.2⟩, fun i hi => ?_, ?_⟩, ?_⟩
  · obtain ⟨g1, g2, g3, g4, g5, g6, g7, g8, g9⟩ := g
    refine ⟨y'.xs.1, ?_, by rw [rr, kk, ll]; exact g3, fun i hi => by rw [hh, kk]; exact g4 i hi, fun i hi => by rw [hh, rr]; exact g5 i hi, fun i hi => by rw [hh, rr]; exact g6 i hi, fun i j => by rw [hh, hh]; exact g7 i j, by rw [rr, kk]; exact g8, by rw [rr, rr]; exact g9⟩
    unfold GS
    simp only [rr, kk, ll]
    exact g2
  · rw [rr]; exact (y'.I 1 rfl 1).trans e5
  · rw [rr, rr]; exact (y'.I 21 rfl i).trans (e6 i hi)
  · rw [ii x (by rw [g.kx]; decide) (by rw [g.kx]; decide)]; exact v3.1
  · rw [es 2 (by decide) (by decide)]; exact v3.2.1
  · rw [hh, show hrow σ' i = hrow σ i from by unfold hrow; rw [es 1 (by decide) (by decide)]]
    exact st _ _ (v4 i hi)
  · rw [rr, es 4 (by decide) (by decide), es 3 (by decide) (by decide)]
    rcases v5 with z | ⟨z1, z2, z3⟩
    · exact Or.inl z
    · exact Or.inr ⟨z1, z2, st _ _ z3⟩
  · rw [rr, es 0 (by decide) (by decide)]; exact st _ _ S
theorem k_clear (C : CR h x σ k) (kk : ∀ h', FR h h' → (∀ σ', (∀ f, f ≠ 5 → σ' f = σ f) → σ' 5 0 = 0 → CR h' x σ' k) → K (σ 5 0) h') : V_X6_clearText x h K := by
  obtain ⟨φ, y, -, ve⟩ := C.view
  have hq : ¬ im (hK h (hR h x 2)) := by rw [C.1.2.2.1.1]; unfold im; omega
  have ed : hI h (hR h x 0) 1 = σ 5 0 := C.2.1.1
  unfold V_X6_clearText
  refine ⟨y.K 7 rfl, y.K 1 rfl, y.K 7 rfl, y.K 1 rfl, fun h1 e1 => ?_⟩
  rw [ed]
  have y1 := y.put 1 (Or.inl rfl) e1
  refine kk h1 (y1.fr0 hq) (fun σ' es e5 => C.dr hq y y1 (fun n a b => by funext i; rw [up_f a]) (by rw [up_s, e5]) (fun i hi => ?_) (fun f a b => es f a))
  rw [up_f (by decide), es 6 (by decide), ve 21 rfl]
  exact C.2.1.2.1 i hi
theorem k_type (C : CR h x σ k) {t : Nat} (ht : t ≤ 60) (ht2 : σ 5 0 = nI t) (a : Int32) (h60 : t = 60 → K (-3) h) (kk : t < 60 → ∀ h', FR h h' → (∀ σ', (∀ f, f < 5 → σ' f = σ f) → σ' 5 0 = nI (t + 1) → (∀ i, σ' 6 i = if i = t then cn a else σ 6 i) → (∀ f, 6 < f → σ' f = σ f) → CR h' x σ' k) → K (nI (t + 1)) h') : V_X6_type x a h K := by
  obtain ⟨φ, y, -, ve⟩ := C.view
  have hq : ¬ im (hK h (hR h x 2)) := by rw [C.1.2.2.1.1]; unfold im; omega
  have ed : φ 1 1 = nI t := by rw [ve 1 rfl]; exact C.2.1.1.trans ht2
  unfold V_X6_type V_X6_type_23 V_X0_append V_X0_append_19
  refine ⟨y.K 7 rfl, ?_⟩
  simp only [y.s, true_and, ed]
  refine ⟨fun z => absurd z (cn0 (by omega)), fun _ => ⟨fun z => ⟨?_, ?_⟩, fun z => ?_⟩⟩
  · rw [nI_ltI (by omega) (by decide)] at z
    exact vin z (by decide)
  · rw [nI_ltI (by omega) (by decide)] at z
    rw [ix_nI (by omega)]
    intro h1 e1
    have y1 := y.put 21 (Or.inl rfl) e1
    simp only [y1.s, true_and]
    intro h2 e2
    have y2 := y1.put 1 (Or.inl rfl) e2
    rw [up_f (by decide), ed, nI_1] at y2
    refine ⟨Or.inr trivial, fun q => absurd q ne01, fun _ => ?_⟩
    simp only [y2.s, true_and, up_s]
    refine kk z h2 (y2.fr0 hq) (fun σ' es e5 e6 e7 => C.dr hq y y2 (fun n a b => by funext i; rw [up_f a, up_f b]) (by rw [up_s, e5]) (fun i hi => ?_) (fun f a b => ?_))
    · rw [up_f (by decide), e6]
      by_cases e : i = t
      · rw [if_pos e, e, up_s]
      · rw [if_neg e, up_i e, ve 21 rfl]; exact C.2.1.2.1 i hi
    · rcases Nat.lt_or_ge f 5 with w | w
      · exact es f w
      · exact e7 f (by omega)
  · rw [nI_ltI (by omega) (by decide)] at z
    exact ⟨Or.inl trivial, fun _ => h60 (by omega), fun q => absurd trivial q⟩
end CPUB2
