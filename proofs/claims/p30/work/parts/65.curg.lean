/-! the class's calls: urgent -/
theorem v01 (v : Int32) : (v = 0 ∨ v = 1) ↔ ¬ (v < 0 ∨ 1 < v) := by
  rw [Int32.lt_iff_toInt_lt, Int32.lt_iff_toInt_lt, ← Int32.toInt_inj, ← Int32.toInt_inj]
  have e0 : (0 : Int32).toInt = 0 := by decide
  have e1 : (1 : Int32).toInt = 1 := by decide
  omega
theorem nm5 {j : Nat} (h : j < 2 ^ 31) : ¬ nI j = (-5 : Int32) := by
  intro q
  have := congrArg Int32.toInt q
  rw [nI_toInt h] at this
  have e : (-5 : Int32).toInt = -5 := by decide
  omega
section CURG
variable {h : Hp} {x : Nat} {σ : Nat → Nat → Int32} {k : Nat} {K : Int32 → Hp → Prop}
theorem k_urgent (C : CR h x σ k) {nj : Nat} (hj : σ 0 1 = nI nj) (h12 : nj ≤ 12) (hO : K (urg (σ 0) nj) h) : V_X6_urgent x h K := by
  have key : ∀ (d i n : Nat) (due : Int32), i + d = 12 → d < n → (¬ urg (σ 0) (min i nj) = -5 → due = jb (σ 0) (ix (urg (σ 0) (min i nj))) 2) → V_X6_urgent_7 K n x (urg (σ 0) (min i nj)) due (nI i) h := by
    intro d
    induction d with
    | zero =>
      intro i n due p1 p2 g
      obtain ⟨n, rfl⟩ : ∃ k, n = k + 1 := ⟨n - 1, by omega⟩
      obtain rfl : i = 12 := by omega
      rw [Nat.min_eq_right h12]
      exact ⟨fun _ => hO, fun z => absurd (by decide) z⟩
    | succ d ih =>
      intro i n due p1 p2 g
      obtain ⟨n, rfl⟩ : ∃ k, n = k + 1 := ⟨n - 1, by omega⟩
      unfold V_X6_urgent_7 V_X6_urgent_54 V_X6_urgent_65
      rw [c12 (by omega), nI_1]
      refine ⟨fun z => absurd z (by omega), fun _ => ⟨C.n.1, C.n.2.1, k_findJob C hj h12 (nI i) (fun hb => ?_) (fun j j1 j2 ja hb hbi jt J J0 => ?_)⟩⟩
      · have hge : nj ≤ i := by
          unfold badJ at hb
          rw [hj, ltN _ (by omega), nle (by omega) (by omega)] at hb
          exact hb.elim (fun z => absurd z (cn0 (by omega))) id
        have := ih (i + 1) n due (by omega) (by omega)
        rw [show min (i + 1) nj = min i nj by omega] at this
        exact ⟨fun _ => this g, fun z => absurd rfl z⟩
      · obtain rfl : i = j := by rw [ix_nI (by omega)] at hbi; exact hbi
        have hm : min i nj = i := by omega
        have hm1 : min (i + 1) nj = i + 1 := by omega
        rw [hm] at g ⊢
        have go := fun due => ih (i + 1) n due (by omega) (by omega)
        rw [hm1] at go
        refine ⟨fun z => absurd z J0, fun _ => ⟨J.1, ?_⟩⟩
        rw [k_isOpen J]
        have eS : urg (σ 0) (i + 1) = if jb (σ 0) i 3 < 0 ∨ 1 < jb (σ 0) i 3 then urg (σ 0) i else if urg (σ 0) i = -5 then nI i else if jb (σ 0) (ix (urg (σ 0) i)) 2 ≤ jb (σ 0) i 2 then urg (σ 0) i else nI i := rfl
        by_cases b : jb (σ 0) i 3 < 0 ∨ 1 < jb (σ 0) i 3
        · rw [if_pos b] at eS
          rw [eS] at go
          rw [if_neg (fun z => (v01 _).mp z b)]
          exact ⟨fun _ => go due g, fun z => absurd rfl z⟩
        · rw [if_neg b] at eS
          rw [if_pos ((v01 _).mpr b)]
          have new : urg (σ 0) (i + 1) = nI i → V_X6_urgent_7 K n x (nI i) (hI h (hR h (hR h (hR h (hR h x 1) 2) i) 0) 2) (nI (i + 1)) h := fun e => by
            have := go (hI h (hR h (hR h (hR h (hR h x 1) 2) i) 0) 2)
            rw [e, ix_nI (by omega)] at this
            exact this (fun _ => J.2.1.2.2.2.1)
          refine ⟨fun z => absurd z ne01, fun _ => ⟨fun z => ?_, fun z => ?_⟩⟩
          · rw [if_pos z] at eS
            exact ⟨J.1, J.2.1.1, new eS⟩
          · rw [if_neg z] at eS
            refine ⟨J.1, J.2.1.1, fun q => ?_, fun q => ?_⟩
            · rw [J.2.1.2.2.2.1, g z] at q
              rw [if_pos q] at eS
              rw [eS] at go
              exact go due g
            · rw [J.2.1.2.2.2.1, g z] at q
              rw [if_neg q] at eS
              exact ⟨J.1, J.2.1.1, new eS⟩
  have := key 12 0 13 0 rfl (by decide)
  rw [Nat.zero_min] at this
  exact ⟨13, this (fun z => absurd rfl z)⟩
end CURG
