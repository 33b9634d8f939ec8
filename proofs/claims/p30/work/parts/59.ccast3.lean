/-! the class's calls: cast; a job is found -/
section CCAST3
variable {h h' : Hp} {x : Nat} {σ : Nat → Nat → Int32} {k : Nat} {K : Int32 → Hp → Prop}
theorem k_cast (C : CR h x σ k) {nc : Nat} (hn : σ 0 0 = nI nc) (h6 : nc ≤ 6) (b s n : Int32) (hO : OC h x σ k K (sp_cast (σ 0) b s n)) : V_X6_cast x b s n h K := by
  obtain ⟨φ, y, ⟨v1, v2, v3⟩, ve⟩ := C.view
  have e3 : φ 6 3 = σ 0 0 := v1 0 (by decide)
  unfold V_X6_cast V_X6_cast_15 V_X6_cast_28
  unfold sp_cast at hO
  rw [k_isCase y (e3.trans hn) h6, e3]
  refine ⟨C.n.1, ?_⟩
  rcases badC_of hn h6 b with hb | ⟨c, hc1, hc2, rfl, hb, hbi⟩
  · rw [if_pos hb]
    rw [if_pos (Or.inl hb)] at hO
    exact ⟨fun _ => hO.no (FR.rf h) C, fun z => absurd rfl z⟩
  · rw [if_neg hb, k_isSort]
    refine ⟨fun z => absurd z ne01, fun _ => ?_⟩
    rcases badS_of s with hs | ⟨t, ht, rfl, hs, hsi⟩
    · rw [if_pos hs]
      rw [if_pos (Or.inr hs)] at hO
      exact ⟨fun z => absurd rfl z, fun _ => hO.no (FR.rf h) C⟩
    · rw [if_neg hs]
      rw [if_neg (fun z => z.elim hb hs), hbi, hsi] at hO
      refine ⟨fun _ => ?_, fun z => absurd z ne01⟩
      by_cases b1 : n < 1
      · rw [if_pos (Or.inl b1)] at hO
        exact ⟨fun _ => hO.no (FR.rf h) C, fun z => absurd b1 z⟩
      · by_cases b2 : n ≤ 99
        · rw [if_neg (fun z => z.elim b1 (fun z => absurd b2 (Int32.not_le.mpr z)))] at hO
          refine ⟨fun z => absurd z b1, fun _ => ⟨fun _ => ⟨30, ?_⟩, fun z => absurd b2 z⟩⟩
          obtain ⟨mm, m1, m2, rfl⟩ := small_of b1 (N := 99) rfl (by decide) b2
          have hsum : sm 29 (fun u => if u = t then nI mm else 0) = nI mm := by
            rw [sm_one ht (fun i hi hne => if_neg hne), if_pos rfl]
          have fin : ∀ h1, FR h h1 → CR h1 x σ k → (∀ s, s < 29 → hI h1 (hR h1 x 8) s = if s = t then nI mm else 0) → V_X6_castWanted x (nI c) h1 (fun r1 h1 => (0 ≤ r1 → hK h1 x = 7 ∧ hK h1 (hR h1 x 1) = 6 ∧ V_X5_held (hR h1 x 1) (nI c) (nI t) h1 (fun r2 h2 => V_X6_cast_91 K r2 h2)) ∧ (¬ (0 ≤ r1) → V_X6_cast_91 K r1 h1)) := by
            intro h1 fr C1 hw
            refine k_castWanted C1 hc2 (fun u => if u = t then nI mm else 0) hw ?_
            have hO1 := oc_fr hO fr
            unfold castW at hO1 ⊢
            by_cases a1 : anyFull (σ 0) c (fun u => if u = t then nI mm else 0) = true
            · rw [if_pos a1] at hO1 ⊢
              exact fun h2 f2 c2 => ⟨fun z => absurd z (by decide), fun _ => hO1 h2 f2 c2⟩
            · rw [if_neg a1] at hO1 ⊢
              by_cases a2 : sm 29 (fun s => (fun u => if u = t then nI mm else 0) s * wd s) ≤ σ 0 2
              · rw [if_pos a2] at hO1 ⊢
                refine fun h2 f2 c2 => ⟨fun _ => ?_, fun z => absurd (by rw [hsum]; exact c0 (by omega)) z⟩
                obtain ⟨σ2, A2, z2⟩ := act_ex σ k (castA (σ 0) c (fun u => if u = t then nI mm else 0))
                have C2 := c2 σ2 A2
                obtain ⟨φ2, y2, ⟨-, w2, -⟩, -⟩ := C2.view
                refine ⟨C2.n.1, C2.n.2.1, ?_⟩
                rw [k_held y2 hc2 ht, w2 _ (by omega), z2]
                have e : castA (σ 0) c (fun u => if u = t then nI mm else 0) (8 + (29 * c + t)) = σ 0 (8 + 29 * c + t) + nI mm := by
                  unfold castA
                  rw [if_pos (by omega), show 8 + (29 * c + t) - (8 + 29 * c) = t by omega, show (fun u => if u = t then nI mm else 0) t = nI mm from if_pos rfl, show 8 + (29 * c + t) = 8 + 29 * c + t by omega]
                rw [e]
                exact hO1 h2 f2 c2
              · rw [if_neg a2] at hO1 ⊢
                exact fun h2 f2 c2 => ⟨fun z => absurd z (by decide), fun _ => hO1 h2 f2 c2⟩
          have key : ∀ (d i n : Nat) (φ1 : Nat → Nat → Int32) (h1 : Hp), i + d = 29 → d < n → XB h x (hR h x 2) φ1 h1 → (∀ n, n ≠ 39 → φ1 n = φ n) → (∀ u, u < i → φ1 39 u = if u = t then nI mm else 0) → V_X6_cast_34 K n x (nI c) (nI t) (nI mm) (nI i) h1 := by
            intro d
            induction d with
            | zero =>
              intro i n φ1 h1 p1 p2 y1 f1 g1
              obtain ⟨n, rfl⟩ : ∃ k, n = k + 1 := ⟨n - 1, by omega⟩
              obtain rfl : i = 29 := by omega
              obtain ⟨C1, fr⟩ := C.scr y y1 (fun n _ _ _ a => f1 n a)
              refine ⟨fun _ => ⟨y1.K 7 rfl, fin h1 fr C1 (fun s hs => ?_)⟩, fun z => absurd (by decide) z⟩
              rw [y1.s.1]; exact (y1.I 39 rfl s).trans (g1 s hs)
            | succ d ih =>
              intro i n φ1 h1 p1 p2 y1 f1 g1
              obtain ⟨n, rfl⟩ : ∃ k, n = k + 1 := ⟨n - 1, by omega⟩
              have go : ∀ v : Int32, v = (if i = t then nI mm else 0) → V_X6_cast_58 K (V_X6_cast_34 K n) x (nI c) (nI t) (nI mm) (nI i) (hR h1 x 8) (nI i) v h1 := by
                intro v hv
                unfold V_X6_cast_58
                simp only [y1.s, ix_nI (show i < 2 ^ 31 by omega), show vp_in (nI i) 29 from vin (by omega) (by omega), true_and, nI_1]
                intro h2 e2
                refine ih (i + 1) n _ h2 (by omega) (by omega) (y1.put 39 (Or.inl rfl) e2) (fun n hn => ?_) (fun u hu => ?_)
                · rw [← f1 n hn]; funext z; rw [up_f hn]
                · by_cases e : u = i
                  · rw [e, up_s, hv]
                  · rw [up_i e]; exact g1 u (by omega)
              unfold V_X6_cast_34
              rw [c29 (by omega), nI_eq (by omega) (by omega)]
              refine ⟨fun z => absurd z (by omega), fun _ => ⟨y1.K 7 rfl, fun z => go _ ?_, fun z => go _ ?_⟩⟩
              · rw [if_neg z]
              · rw [if_pos z]
          exact key 29 0 30 φ h rfl (by decide) y (fun _ _ => rfl) (fun u hu => absurd hu (Nat.not_lt_zero _))
        · rw [if_pos (Or.inr (Int32.not_le.mp b2))] at hO
          exact ⟨fun z => absurd z b1, fun _ => ⟨fun z => absurd z b2, fun _ => hO.no (FR.rf h) C⟩⟩
theorem k_findJob (C : CR h x σ k) {nj : Nat} (hj : σ 0 1 = nI nj) (h12 : nj ≤ 12) (a : Int32) {K : Nat → Hp → Prop} (bad : badJ (σ 0) a → K 0 h) (good : ∀ j, j < nj → j < 12 → a = nI j → ¬ badJ (σ 0) a → ix a = j → JT (σ 0) j → JobR h (σ 0) j (hR h (hR h (hR h x 1) 2) j) → hR h (hR h (hR h x 1) 2) j ≠ 0 → K (hR h (hR h (hR h x 1) 2) j) h) : V_X5_findJob (hR h x 1) a h K := by
  obtain ⟨c1, c2, c3⟩ := C.n
  obtain ⟨-, -, k22, l12, -⟩ := C.1.2.1.1 _ c2
  have S := C.2.2
  unfold V_X5_findJob V_X5_findJob_27 V_X5_findJob_28
  rw [show hI h (hR h x 1) 4 = nI nj from (c3 1 (by decide)).trans hj]
  rcases badJ_of hj h12 a with hb | ⟨j, hj1, hj2, rfl, hb, hbi⟩
  · refine ⟨fun _ => bad hb, fun z => ⟨c2, fun _ => bad hb, fun z2 => ?_⟩⟩
    exfalso
    unfold badJ at hb
    rw [hj, ltN a (by omega)] at hb
    exact hb.elim z z2
  · have hlt : nI j < σ 0 1 := by rw [hj]; exact nI_lt hj1 (by omega)
    obtain ⟨t1, t2⟩ := S.2.2.2.2 j hj2 hlt
    refine ⟨fun z => absurd z (cn0 (by omega)), fun _ => ⟨c2, fun z => ?_, fun _ => ⟨fun z => ?_, fun _ => ⟨c2, k22, by rw [l12]; exact vin hj2 (by decide), ?_⟩⟩⟩⟩
    · rw [nle (by omega) (by omega)] at z; omega
    · rw [c12 (by omega)] at z; omega
    · rw [ix_nI (by omega)]
      exact good j hj1 hj2 rfl hb hbi t1 t2.1 t2.2
end CCAST3
