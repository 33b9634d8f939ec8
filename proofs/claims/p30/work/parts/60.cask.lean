/-! the class's calls: pieces, taken, gap, need, missing -/
section CASK
variable {h : Hp} {x : Nat} {σ : Nat → Nat → Int32} {k : Nat} {K : Int32 → Hp → Prop}
theorem k_pieces (C : CR h x σ k) {nc : Nat} (hn : σ 0 0 = nI nc) (h6 : nc ≤ 6) (b s : Int32) (hO : OC h x σ k K (sp_pieces (σ 0) b s)) : V_X6_pieces x b s h K := by
  obtain ⟨φ, y, ⟨v1, v2, v3⟩, ve⟩ := C.view
  have e3 : φ 6 3 = σ 0 0 := v1 0 (by decide)
  unfold V_X6_pieces V_X6_pieces_45
  unfold sp_pieces at hO
  rw [k_isSort]
  rcases badS_of s with hs | ⟨t, ht, rfl, hs, hsi⟩
  · rw [if_pos hs]
    rw [if_pos hs] at hO
    exact ⟨fun z => absurd rfl z, fun _ => hO.no (FR.rf h) C⟩
  · rw [if_neg hs]
    rw [if_neg hs, hsi] at hO
    refine ⟨fun _ => ⟨fun z => ⟨C.n.1, ?_⟩, fun z => ?_⟩, fun z => absurd z ne01⟩
    · rw [if_neg z] at hO
      rw [k_isCase y (e3.trans hn) h6, e3]
      rcases badC_of hn h6 b with hb | ⟨c, hc1, hc2, rfl, hb, hbi⟩
      · rw [if_pos hb]
        rw [if_pos hb] at hO
        exact ⟨fun _ => hO.no (FR.rf h) C, fun z => absurd rfl z⟩
      · rw [if_neg hb]
        rw [if_neg hb, hbi] at hO
        refine ⟨fun z => absurd z ne01, fun _ => ⟨C.n.1, C.n.2.1, ?_⟩⟩
        rw [k_held y hc2 ht, v2 _ (by omega), show 8 + (29 * c + t) = 8 + 29 * c + t by omega]
        exact hO.no (FR.rf h) C
    · rw [if_pos z] at hO
      simp only [y.s, ix_nI (show t < 2 ^ 31 by omega), show vp_in (nI t) 29 from vin (by omega) (by omega), true_and, v3 t ht]
      exact hO.no (FR.rf h) C
theorem k_taken (C : CR h x σ k) {nc nj : Nat} (hn : σ 0 0 = nI nc) (h6 : nc ≤ 6) (hj : σ 0 1 = nI nj) (h12 : nj ≤ 12) (a b s : Int32) (hO : OC h x σ k K (sp_taken (σ 0) a b s)) : V_X6_taken x a b s h K := by
  obtain ⟨φ, y, ⟨v1, v2, v3⟩, ve⟩ := C.view
  have e3 : φ 6 3 = σ 0 0 := v1 0 (by decide)
  unfold V_X6_taken V_X6_taken_30
  unfold sp_taken at hO
  refine ⟨C.n.1, C.n.2.1, k_findJob C hj h12 a (fun hb => ?_) (fun j j1 j2 ja hb hbi jt J J0 => ?_)⟩
  · rw [if_pos (Or.inl hb)] at hO
    exact ⟨fun _ => hO.no (FR.rf h) C, fun z => absurd rfl z⟩
  · refine ⟨fun z => absurd z J0, fun _ => ⟨C.n.1, ?_⟩⟩
    rw [k_isCase y (e3.trans hn) h6, e3]
    rcases badC_of hn h6 b with hc | ⟨c, hc1, hc2, rfl, hc, hci⟩
    · rw [if_pos hc]
      rw [if_pos (Or.inr (Or.inl hc))] at hO
      exact ⟨fun _ => hO.no (FR.rf h) C, fun z => absurd rfl z⟩
    · rw [if_neg hc, k_isSort]
      refine ⟨fun z => absurd z ne01, fun _ => ?_⟩
      rcases badS_of s with hs | ⟨t, ht, rfl, hs, hsi⟩
      · rw [if_pos hs]
        rw [if_pos (Or.inr (Or.inr hs))] at hO
        exact ⟨fun z => absurd rfl z, fun _ => hO.no (FR.rf h) C⟩
      · rw [if_neg hs]
        rw [if_neg (fun z => z.elim hb (fun z => z.elim hc hs)), hbi, hci, hsi] at hO
        refine ⟨fun _ => ⟨J.1, ?_⟩, fun z => absurd z ne01⟩
        rw [k_takenFrom J hc2 ht]
        exact hO.no (FR.rf h) C
end CASK
