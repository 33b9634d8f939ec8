/-! the class's calls: cast, castFount -/
section CCAST2
variable {h h' : Hp} {x : Nat} {σ : Nat → Nat → Int32} {k : Nat} {K : Int32 → Hp → Prop}
theorem oc_fr {o : Ans} (hO : OC h x σ k K o) (f : FR h h') : OC h' x σ k K o := fun h2 f2 c => hO h2 (f.tr f2) c
/-- the rows that each call fills anew are no part of it -/
theorem CR.scr {q : Nat} {φ φ' : Nat → Nat → Int32} (C : CR h x σ k) (y : XB h x q φ h) (y' : XB h x q φ' h') (e : ∀ n, n ≠ 5 → n ≠ 37 → n ≠ 38 → n ≠ 39 → φ' n = φ n) : CR h' x σ k ∧ FR h h' := by
  obtain ⟨g, ⟨v1, v2, ⟨v3, v4, v5⟩, v6, v7⟩, S⟩ := C
  have m := (Mv.rf g).xb g y y' (fun n hn => e n (by omega) (by omega) (by omega) (by omega)) (Or.inr (e 20 (by decide) (by decide) (by decide) (by decide)))
  obtain ⟨w1, w2, w3⟩ := m.hv g
  have rx := (m.cells g).1
  have no : NoR φ' (σ 0) := ⟨fun i hi => by rw [e 6 (by decide) (by decide) (by decide) (by decide), ← y.I 6 rfl]; exact S.2.1 i hi, fun i hi => by rw [e 35 (by decide) (by decide) (by decide) (by decide), ← y.I 35 rfl]; exact S.2.2.1 i hi, fun i hi => by rw [e 36 (by decide) (by decide) (by decide) (by decide), ← y.I 36 rfl]; exact S.2.2.2.1 i hi⟩
  refine ⟨⟨m.hst g, ⟨by rw [w1]; exact v1, fun i hi => by rw [w2]; exact v2 i hi, ⟨by rw [w3]; exact v3, v4, v5⟩, fun i hi => ?_, ?_⟩, ?_⟩, m.fr g⟩
  · rw [m.his g]; exact m.st g (v6 i hi) (g.2.2.2.2.1 i (by omega))
  · rw [rx]
    rcases v7 with z | ⟨z1, z2, z3⟩
    · exact Or.inl z
    · exact Or.inr ⟨z1, z2, m.st g z3 g.2.2.2.2.2.2.2.2⟩
  · rw [rx]; exact NoR.st g S m y' no (fun _ _ => rfl) rfl
/-- some σ' is behind an act -/
theorem act_ex (σ : Nat → Nat → Int32) (k : Nat) (R : Row) : ∃ σ', Act σ k (fun ρ' => ρ' = R) σ' ∧ σ' 0 = R := by
  refine ⟨fun f => if f = 0 then R else if f = 1 then (fun p => if p / 3475 + 1 = rk k then σ 0 (p % 3475) else σ 1 (3475 * (p / 3475 + if k = 5 then 1 else 0) + p % 3475)) else if f = 2 then (fun _ => nI (rk k)) else σ f, ⟨rfl, rfl, fun i hi y hy => ?_, fun f a b => ?_⟩, rfl⟩
  · show (if (3475 * i + y) / 3475 + 1 = rk k then σ 0 ((3475 * i + y) % 3475) else σ 1 (3475 * ((3475 * i + y) / 3475 + if k = 5 then 1 else 0) + (3475 * i + y) % 3475)) = _
    rw [show (3475 * i + y) / 3475 = i by omega, show (3475 * i + y) % 3475 = y by omega]
  · show (if f = 0 then R else if f = 1 then _ else if f = 2 then _ else σ f) = σ f
    rw [if_neg (by omega), if_neg (by omega), if_neg (by omega)]
theorem fount_s : ∀ m : Fin 10, sm 29 (fount (nI m.val)) = 32 * nI m.val := by decide
theorem small_of {n : Int32} (h1 : ¬ n < 1) {N : Nat} {v : Int32} (hv : v = nI N) (hN : N < 2 ^ 31) (h2 : n ≤ v) : ∃ m, 1 ≤ m ∧ m ≤ N ∧ n = nI m := by
  have a : ¬ n < 0 := fun z => h1 (Int32.lt_trans z (by decide))
  obtain ⟨m, hm, rfl⟩ := nI_of a
  rw [show (1 : Int32) = nI 1 from rfl, nI_ltI hm (by decide)] at h1
  rw [hv, nle hm hN] at h2
  exact ⟨m, by omega, h2, rfl⟩
theorem k_castFount (C : CR h x σ k) {nc : Nat} (hn : σ 0 0 = nI nc) (h6 : nc ≤ 6) (b n : Int32) (hO : OC h x σ k K (sp_castFount (σ 0) b n)) : V_X6_castFount x b n h K := by
  obtain ⟨φ, y, ⟨v1, v2, v3⟩, ve⟩ := C.view
  have e3 : φ 6 3 = σ 0 0 := v1 0 (by decide)
  unfold V_X6_castFount V_X6_castFount_21
  unfold sp_castFount at hO
  rw [k_isCase y (e3.trans hn) h6, e3]
  refine ⟨C.n.1, ?_⟩
  rcases badC_of hn h6 b with hb | ⟨c, hc1, hc2, rfl, hb, hbi⟩
  · rw [if_pos hb]
    rw [if_pos hb] at hO
    exact ⟨fun z => absurd rfl z, fun _ => hO.no (FR.rf h) C⟩
  · rw [if_neg hb]
    rw [if_neg hb, hbi] at hO
    refine ⟨fun _ => ?_, fun z => absurd z ne01⟩
    by_cases b1 : n < 1
    · rw [if_pos (Or.inl b1)] at hO
      exact ⟨fun _ => hO.no (FR.rf h) C, fun z => absurd b1 z⟩
    · by_cases b2 : n ≤ 9
      · rw [if_neg (fun z => z.elim b1 (fun z => absurd b2 (Int32.not_le.mpr z)))] at hO
        refine ⟨fun z => absurd z b1, fun _ => ⟨fun _ => ⟨30, ?_⟩, fun z => absurd b2 z⟩⟩
        obtain ⟨mm, m1, m2, rfl⟩ := small_of b1 (N := 9) rfl (by decide) b2
        have hs : sm 29 (fount (nI mm)) = 32 * nI mm := fount_s ⟨mm, by omega⟩
        rw [← hs] at hO
        have key : ∀ (d i n : Nat) (φ1 : Nat → Nat → Int32) (h1 : Hp), i + d = 29 → d < n → XB h x (hR h x 2) φ1 h1 → (∀ n, n ≠ 39 → φ1 n = φ n) → (∀ t, t < i → φ1 39 t = fount (nI mm) t) → V_X6_castFount_26 K n x (nI c) (nI mm) (nI i) h1 := by
          intro d
          induction d with
          | zero =>
            intro i n φ1 h1 p1 p2 y1 f1 g1
            obtain ⟨n, rfl⟩ : ∃ k, n = k + 1 := ⟨n - 1, by omega⟩
            obtain rfl : i = 29 := by omega
            obtain ⟨C1, fr⟩ := C.scr y y1 (fun n _ _ _ a => f1 n a)
            refine ⟨fun _ => ⟨y1.K 7 rfl, k_castWanted C1 hc2 (fount (nI mm)) (fun s hs => ?_) (oc_fr hO fr)⟩, fun z => absurd (by decide) z⟩
            rw [y1.s.1]; exact (y1.I 39 rfl s).trans (g1 s hs)
          | succ d ih =>
            intro i n φ1 h1 p1 p2 y1 f1 g1
            obtain ⟨n, rfl⟩ : ∃ k, n = k + 1 := ⟨n - 1, by omega⟩
            have go : ∀ v : Int32, v = fount (nI mm) i → V_X6_castFount_50 K (V_X6_castFount_26 K n) x (nI c) (nI mm) (nI i) (hR h1 x 8) (nI i) v h1 := by
              intro v hv
              unfold V_X6_castFount_50
              simp only [y1.s, ix_nI (show i < 2 ^ 31 by omega), show vp_in (nI i) 29 from vin (by omega) (by omega), true_and, nI_1]
              intro h2 e2
              refine ih (i + 1) n _ h2 (by omega) (by omega) (y1.put 39 (Or.inl rfl) e2) (fun n hn => ?_) (fun t ht => ?_)
              · rw [← f1 n hn]; funext z; rw [up_f hn]
              · by_cases e : t = i
                · rw [e, up_s, hv]
                · rw [up_i e]; exact g1 t (by omega)
            unfold V_X6_castFount_26
            rw [c29 (by omega), c26 (by omega)]
            refine ⟨fun z => absurd z (by omega), fun _ => ⟨y1.K 7 rfl, fun z => go _ ?_, fun z => go _ ?_⟩⟩
            · exact (if_neg (show ¬ i < 26 by omega)).symm
            · exact (if_pos (show i < 26 by omega)).symm
        exact key 29 0 30 φ h rfl (by decide) y (fun _ _ => rfl) (fun t ht => absurd ht (Nat.not_lt_zero _))
      · rw [if_pos (Or.inr (Int32.not_le.mp b2))] at hO
        exact ⟨fun z => absurd z b1, fun _ => ⟨fun z => absurd z b2, fun _ => hO.no (FR.rf h) C⟩⟩
end CCAST2
