/-! the class's calls: castMissing -/
section CCASTM
variable {h : Hp} {x : Nat} {σ : Nat → Nat → Int32} {k : Nat} {K : Int32 → Hp → Prop}
theorem k_castMissing (C : CR h x σ k) {nc nj : Nat} (h6 : nc ≤ 6) (hj : σ 0 1 = nI nj) (h12 : nj ≤ 12) (hH : ∀ j, j < nj → ∃ c, c < 6 ∧ jb (σ 0) j 0 = nI c) (z1 : ∀ c s, nc ≤ c → c < 6 → s < 29 → σ 0 (8 + 29 * c + s) = 0) (z2 : ∀ j c s, j < nj → nc ≤ c → c < 6 → s < 29 → fm (σ 0) j c s = 0) (z3 : ∀ j, j < nj → ¬ (jb (σ 0) j 3 = 1 ∨ jb (σ 0) j 3 = 2) → ∀ c s, c < 6 → s < 29 → fm (σ 0) j c s = 0)
    (hsm : ∀ j s, j < nj → s < 29 → ∃ a b, a < 2 ^ 30 ∧ b < 2 ^ 30 ∧ ndF (σ 0) nc j (jlen (σ 0) j) s = nI a ∧ thr (σ 0) nc j s = nI b) (a : Int32) (hO : OC h x σ k K (sp_castMissing (σ 0) nc a)) : V_X6_castMissing x a h K := by
  unfold V_X6_castMissing
  unfold sp_castMissing at hO
  refine ⟨C.n.1, C.n.2.1, k_findJob C hj h12 a (fun hb => ?_) (fun j j1 j2 ja hb hbi jt J J0 => ?_)⟩
  · rw [if_pos hb] at hO
    exact ⟨fun z => absurd rfl z, fun _ => hO.no (FR.rf h) C⟩
  · rw [if_neg hb, hbi] at hO
    refine ⟨fun _ => ⟨J.1, ?_⟩, fun z => absurd z J0⟩
    rw [J.2.2.1]
    refine ⟨fun q => ⟨C.n.1, ?_⟩, fun q => ?_⟩
    · rw [if_pos q] at hO
      refine k_reckC C h6 J jt z1 (fun c s => z2 j c s j1) (z3 j j1) (fun h1 φ1 y1 C1 f1 e1 => ⟨30, ?_⟩)
      obtain ⟨φ, y, -, ve⟩ := C1.view
      have ev : ∀ n, xk n = true → ∀ i, φ n i = φ1 n i := fun n hn i => by rw [ve n hn, y1.xs.2 n hn]; exact y1.I n hn i
      obtain ⟨hm, hm6, hh⟩ := hH j j1
      rw [hh, ix_nI (by omega)] at hO
      have key : ∀ (d i n : Nat) (φ2 : Nat → Nat → Int32) (h2 : Hp), i + d = 29 → d < n → XB h1 x (hR h1 x 2) φ2 h2 → (∀ n, n ≠ 39 → φ2 n = φ n) → (∀ u, u < i → φ2 39 u = lkF (σ 0) nc j u) → V_X6_castMissing_35 K n x (hR h (hR h (hR h x 1) 2) j) (sm i (lkF (σ 0) nc j)) (nI i) h2 := by
        intro d
        induction d with
        | zero =>
          intro i n φ2 h2 p1 p2 y2 g1 g2
          obtain ⟨n, rfl⟩ : ∃ k, n = k + 1 := ⟨n - 1, by omega⟩
          obtain rfl : i = 29 := by omega
          obtain ⟨C2, f2⟩ := C1.scr y y2 (fun n _ _ _ a => g1 n a)
          have J2 := J.fr (f1.tr f2)
          rw [show lkN (σ 0) nc j = sm 29 (lkF (σ 0) nc j) from rfl] at hO
          unfold V_X6_castMissing_35 V_X6_castMissing_91
          refine ⟨fun _ => ⟨fun z => ⟨J2.1, J2.2.1.1, y2.K 7 rfl, ?_⟩, fun z => ?_⟩, fun z => absurd (by decide) z⟩
          · rw [if_neg z] at hO
            rw [J2.2.1.2.1, hh]
            refine k_castWanted C2 hm6 (lkF (σ 0) nc j) (fun s hs => ?_) (oc_fr hO (f1.tr f2))
            rw [y2.s.1]; exact (y2.I 39 rfl s).trans (g2 s hs)
          · rw [if_pos z] at hO
            exact hO.no (f1.tr f2) C2
        | succ d ih =>
          intro i n φ2 h2 p1 p2 y2 g1 g2
          obtain ⟨n, rfl⟩ : ∃ k, n = k + 1 := ⟨n - 1, by omega⟩
          unfold V_X6_castMissing_35
          rw [c29 (by omega)]
          refine ⟨fun z => absurd z (by omega), fun _ => ⟨y2.K 7 rfl, y2.K 7 rfl, ?_⟩⟩
          rw [k_missingOf y2 (by omega), g1 37 (by decide), g1 38 (by decide), ev 37 rfl, ev 38 rfl, (e1 i (by omega)).1, (e1 i (by omega)).2]
          obtain ⟨p, q, hp, hq, e2, e3⟩ := hsm j i j1 (by omega)
          have e4 : (if 0 < ndF (σ 0) nc j (jlen (σ 0) j) i - thr (σ 0) nc j i then ndF (σ 0) nc j (jlen (σ 0) j) i - thr (σ 0) nc j i else 0) = lkF (σ 0) nc j i := by
            unfold lkF
            rw [e2, e3, mis_eq hp hq]
          rw [e4]
          simp only [y2.s, ix_nI (show i < 2 ^ 31 by omega), show vp_in (nI i) 29 from vin (by omega) (by omega), true_and]
          intro h3 e5
          have y3 := y2.put 39 (Or.inl rfl) e5
          simp only [y3.s, ix_nI (show i < 2 ^ 31 by omega), show vp_in (nI i) 29 from vin (by omega) (by omega), true_and, up_s, nI_1]
          refine ih (i + 1) n _ h3 (by omega) (by omega) y3 (fun n hn => ?_) (fun u hu => ?_)
          · rw [← g1 n hn]; funext z; rw [up_f hn]
          · by_cases e : u = i
            · rw [e, up_s]
            · rw [up_i e]; exact g2 u (by omega)
      exact key 29 0 30 φ h1 rfl (by decide) y (fun _ _ => rfl) (fun u hu => absurd hu (Nat.not_lt_zero _))
    · rw [if_neg q] at hO
      exact hO.no (FR.rf h) C
end CCASTM
