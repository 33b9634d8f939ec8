/-! the class's calls: job -/
theorem sm_but {n hm : Nat} (h : hm < n) (f : Nat → Int32) : sm n f = sm n (fun c => if c = hm then 0 else f c) + f hm := by
  have e : sm n (fun c => if c = hm then f c else 0) = f hm := by
    rw [sm_one h (fun i _ hne => if_neg hne), if_pos rfl]
  rw [← e, ← sm_add]
  refine sm_congr (fun c _ => ?_)
  by_cases q : c = hm
  · rw [if_pos q, if_pos q, Int32.zero_add]
  · rw [if_neg q, if_neg q, Int32.add_zero]
theorem add_sub_c (a b : Int32) : a + b - b = a := by
  rw [Int32.sub_eq_add_neg, Int32.add_assoc, Int32.add_right_neg, Int32.add_zero]
section CJOBQ
variable {h : Hp} {x : Nat} {σ : Nat → Nat → Int32} {k : Nat} {K : Int32 → Hp → Prop}
theorem fN6 {ρ : Row} {nc j : Nat} (h6 : nc ≤ 6) (z2 : ∀ c s, nc ≤ c → c < 6 → s < 29 → fm ρ j c s = 0) : sm 6 (fun c => sm 29 (fun s => fm ρ j c s)) = formeN ρ nc j :=
  sm_ext h6 (fun c a b => sm_zero (fun s hs => z2 c s a b hs))
theorem fO6 {ρ : Row} {nc j hm : Nat} (h6 : nc ≤ 6) (hh : jb ρ j 0 = nI hm) (hm6 : hm < 6) (z2 : ∀ c s, nc ≤ c → c < 6 → s < 29 → fm ρ j c s = 0) : sm 6 (fun c => sm 29 (fun s => fm ρ j c s)) - sm 29 (fun s => fm ρ j hm s) = formeO ρ nc j := by
  rw [sm_but hm6 (fun c => sm 29 (fun s => fm ρ j c s)), add_sub_c]
  rw [sm_ext h6 (fun c a b => by
    by_cases e : c = hm
    · rw [if_pos e]
    · rw [if_neg e]; exact sm_zero (fun s hs => z2 c s a b hs))]
  refine sm_congr (fun c hc => ?_)
  by_cases e : c = hm
  · rw [if_pos e]
    refine (sm_zero (fun s hs => ?_)).symm
    rw [if_pos (by rw [e, hh])]
  · rw [if_neg e]
    refine sm_congr (fun s hs => ?_)
    rw [if_neg (fun z => e ((nI_eq (by omega) (by omega)).mp (z.trans hh)))]
theorem k_job (C : CR h x σ k) {nc nj : Nat} (h6 : nc ≤ 6) (hj : σ 0 1 = nI nj) (h12 : nj ≤ 12) (hH : ∀ j, j < nj → ∃ c, c < 6 ∧ jb (σ 0) j 0 = nI c) (z2 : ∀ j c s, j < nj → nc ≤ c → c < 6 → s < 29 → fm (σ 0) j c s = 0) (hL : ∀ j, j < nj → jb (σ 0) j 5 = lateC (σ 0) j)
    (a w : Int32) (hO : OC h x σ k K (sp_job (σ 0) nc a w)) : V_X6_job x a w h K := by
  unfold V_X6_job
  unfold sp_job at hO
  refine ⟨C.n.1, C.n.2.1, k_findJob C hj h12 a (fun hb => ?_) (fun j j1 j2 ja hb hbi jt J J0 => ?_)⟩
  · rw [if_pos hb] at hO
    exact ⟨fun z => absurd rfl z, fun _ => hO.no (FR.rf h) C⟩
  · rw [if_neg hb, hbi] at hO
    obtain ⟨hm, hm6, hh⟩ := hH j j1
    have L := J.2.1.2.2.2.2
    have l567 := L.2.2.2.2.2.2
    refine ⟨fun _ => ⟨fun e => ⟨J.1, J.2.1.1, ?_⟩, fun e => ⟨J.1, J.2.1.1, ?_⟩, fun e => ⟨J.1, J.2.1.1, ?_⟩, fun e => ⟨J.1, ?_⟩, fun e => ⟨J.1, J.2.1.1, L.1, ?_⟩, fun e => ⟨J.1, J.2.1.1, L.1, ?_⟩, fun e => ⟨J.1, J.2.1.1, L.1, ?_⟩, fun e => ⟨J.1, k_formePieces J ?_⟩, fun e => ⟨J.1, k_borrowed J hh hm6 ?_⟩, fun e => ⟨J.1, ?_⟩, fun e => ⟨J.1, (k_daysLate J).mpr ?_⟩, fun e => ?_⟩, fun z => absurd z J0⟩
    · rw [if_pos e] at hO; rw [J.2.1.2.1]; exact hO.no (FR.rf h) C
    · rw [if_neg (by omega), if_pos e] at hO; rw [J.2.1.2.2.1]; exact hO.no (FR.rf h) C
    · rw [if_neg (by omega), if_neg (by omega), if_pos e] at hO; rw [J.2.1.2.2.2.1]; exact hO.no (FR.rf h) C
    · rw [if_neg (by omega), if_neg (by omega), if_neg (by omega), if_pos e] at hO; rw [J.2.2.1]; exact hO.no (FR.rf h) C
    · rw [if_neg (by omega), if_neg (by omega), if_neg (by omega), if_neg (by omega), if_pos e] at hO; rw [l567.1]; exact hO.no (FR.rf h) C
    · rw [if_neg (by omega), if_neg (by omega), if_neg (by omega), if_neg (by omega), if_neg (by omega), if_pos e] at hO; rw [l567.2.1]; exact hO.no (FR.rf h) C
    · rw [if_neg (by omega), if_neg (by omega), if_neg (by omega), if_neg (by omega), if_neg (by omega), if_neg (by omega), if_pos e] at hO; rw [l567.2.2]; exact hO.no (FR.rf h) C
    · rw [if_neg (by omega), if_neg (by omega), if_neg (by omega), if_neg (by omega), if_neg (by omega), if_neg (by omega), if_neg (by omega), if_pos e] at hO
      rw [fN6 h6 (fun c s => z2 j c s j1)]; exact hO.no (FR.rf h) C
    · rw [if_neg (by omega), if_neg (by omega), if_neg (by omega), if_neg (by omega), if_neg (by omega), if_neg (by omega), if_neg (by omega), if_neg (by omega), if_pos e] at hO
      rw [fO6 h6 hh hm6 (fun c s => z2 j c s j1)]; exact hO.no (FR.rf h) C
    · rw [if_neg (by omega), if_neg (by omega), if_neg (by omega), if_neg (by omega), if_neg (by omega), if_neg (by omega), if_neg (by omega), if_neg (by omega), if_neg (by omega), if_pos e] at hO
      rw [J.2.2.2.1]; exact hO.no (FR.rf h) C
    · rw [if_neg (by omega), if_neg (by omega), if_neg (by omega), if_neg (by omega), if_neg (by omega), if_neg (by omega), if_neg (by omega), if_neg (by omega), if_neg (by omega), if_neg (by omega), if_pos e] at hO
      rw [← hL j j1]; exact hO.no (FR.rf h) C
    · rw [if_neg (by omega), if_neg (by omega), if_neg (by omega), if_neg (by omega), if_neg (by omega), if_neg (by omega), if_neg (by omega), if_neg (by omega), if_neg (by omega), if_neg (by omega), if_neg (by omega)] at hO
      exact hO.no (FR.rf h) C
end CJOBQ
