/-! the class's calls: count -/
section CCNT2
variable {h : Hp} {x : Nat} {σ : Nat → Nat → Int32} {k : Nat} {K : Int32 → Hp → Prop}
theorem late_eq {ρ : Row} {j : Nat} (hL : jb ρ j 5 = lateC ρ j) : (if jb ρ j 4 = -5 then 0 else lateC ρ j) = if jb ρ j 5 ≤ 0 then 0 else jb ρ j 5 := by
  rw [hL]
  by_cases e : jb ρ j 4 = -5
  · have : lateC ρ j = -5 := if_pos e
    rw [if_pos e, this, if_pos (by decide)]
  · rw [if_neg e]
    by_cases q : lateC ρ j ≤ 0
    · rw [if_pos q]
      have : lateC ρ j = if 0 < jb ρ j 4 - jb ρ j 2 then jb ρ j 4 - jb ρ j 2 else 0 := if_neg e
      rw [this] at q ⊢
      by_cases p : 0 < jb ρ j 4 - jb ρ j 2
      · rw [if_pos p] at q
        exact absurd q (Int32.not_le.mpr p)
      · rw [if_neg p]
    · rw [if_neg q]
theorem case_eq {φ : Nat → Nat → Int32} {ρ : Row} {nc : Nat} (h6 : nc ≤ 6) (v : ∀ i, i < 174 → φ 35 i = ρ (8 + i)) (z1 : ∀ c s, nc ≤ c → c < 6 → s < 29 → ρ (8 + 29 * c + s) = 0) : sm 29 (fun s => sm 6 (fun c => φ 35 (29 * c + s)) * wd s) = caseM ρ nc := by
  rw [sm_congr (show ∀ s, s < 29 → sm 6 (fun c => φ 35 (29 * c + s)) * wd s = sm nc (fun c => ρ (8 + 29 * c + s) * wd s) from fun s hs => by
    rw [sm_mul, sm_congr (show ∀ c, c < 6 → φ 35 (29 * c + s) = ρ (8 + 29 * c + s) from fun c hc => by rw [v _ (by omega), show 8 + (29 * c + s) = 8 + 29 * c + s by omega]), sm_ext h6 (fun c a b => z1 c s a b hs)])]
  exact sm_swap 29 nc (fun s c => ρ (8 + 29 * c + s) * wd s)
theorem form_eq {ρ : Row} {nc nj : Nat} (h6 : nc ≤ 6) (z2 : ∀ j c s, j < nj → nc ≤ c → c < 6 → s < 29 → fm ρ j c s = 0) : sm nj (fun j => sm 29 (fun s => sm 6 (fun c => fm ρ j c s) * wd s)) = formeM ρ nc nj := by
  refine sm_congr (fun j hj => ?_)
  rw [sm_congr (show ∀ s, s < 29 → sm 6 (fun c => fm ρ j c s) * wd s = sm nc (fun c => fm ρ j c s * wd s) from fun s hs => by
    rw [sm_mul, sm_ext h6 (fun c a b => z2 j c s hj a b hs)])]
  exact sm_swap 29 nc (fun s c => fm ρ j c s * wd s)
theorem k_count (C : CR h x σ k) {nc nj : Nat} (h6 : nc ≤ 6) (hj : σ 0 1 = nI nj) (h12 : nj ≤ 12) (z1 : ∀ c s, nc ≤ c → c < 6 → s < 29 → σ 0 (8 + 29 * c + s) = 0) (z2 : ∀ j c s, j < nj → nc ≤ c → c < 6 → s < 29 → fm (σ 0) j c s = 0) (hL : ∀ j, j < nj → jb (σ 0) j 5 = lateC (σ 0) j)
    (a : Int32) (hO : K (sp_count (σ 0) nc nj (σ 2 0) (σ 5 0) a) h) : V_X6_count x a h K := by
  obtain ⟨φ, y, ⟨v1, v2, v3⟩, ve⟩ := C.view
  obtain ⟨c1, c2, c3⟩ := C.n
  unfold sp_count at hO
  unfold V_X6_count
  refine ⟨fun e => ⟨c1, c2, ?_⟩, fun e => ⟨c1, c2, ?_⟩, fun e => ⟨c1, c2, ?_⟩, fun e => ⟨c1, c2, k_metalInCases y ?_⟩, fun e => ⟨c1, c2, k_mif C hj h12 ?_⟩, fun e => ⟨c1, c2, k_wornMetal y ?_⟩, fun e => ⟨c1, c2, ?_⟩, fun e => ⟨c1, c2, ?_⟩, fun e => ⟨c1, c2, ?_⟩, fun e => ⟨c1, c2, ?_⟩, fun e => ⟨c1, c2, k_wornPieces y ?_⟩, fun e => ⟨c1, c2, ?_⟩, fun e => ⟨c1, c2, k_adl C hj h12 ?_⟩, fun e => ⟨c1, c2, k_ovd C hj h12 ?_⟩, fun e => ⟨c1, ?_⟩, fun e => ⟨c1, y.K 1 rfl, ?_⟩, fun e => ?_⟩
  · rw [if_pos e] at hO
    rw [show hI h (hR h x 1) 3 = _ from c3 0 (by decide)]; exact hO
  · rw [if_neg (by omega), if_pos e] at hO
    rw [show hI h (hR h x 1) 4 = _ from c3 1 (by decide)]; exact hO
  · rw [if_neg (by omega), if_neg (by omega), if_pos e] at hO
    rw [show hI h (hR h x 1) 5 = _ from c3 2 (by decide)]; exact hO
  · rw [if_neg (by omega), if_neg (by omega), if_neg (by omega), if_pos e] at hO
    rw [case_eq h6 v2 z1]; exact hO
  · rw [if_neg (by omega), if_neg (by omega), if_neg (by omega), if_neg (by omega), if_pos e] at hO
    rw [form_eq h6 z2]; exact hO
  · rw [if_neg (by omega), if_neg (by omega), if_neg (by omega), if_neg (by omega), if_neg (by omega), if_pos e] at hO
    rw [show sm 29 (fun s => φ 36 s * wd s) = boxM (σ 0) from sm_congr (fun s hs => by rw [v3 s hs])]; exact hO
  · rw [if_neg (by omega), if_neg (by omega), if_neg (by omega), if_neg (by omega), if_neg (by omega), if_neg (by omega), if_pos e] at hO
    rw [show hI h (hR h x 1) 7 = _ from c3 4 (by decide)]; exact hO
  · rw [if_neg (by omega), if_neg (by omega), if_neg (by omega), if_neg (by omega), if_neg (by omega), if_neg (by omega), if_neg (by omega), if_pos e] at hO
    rw [show hI h (hR h x 1) 8 = _ from c3 5 (by decide)]; exact hO
  · rw [if_neg (by omega), if_neg (by omega), if_neg (by omega), if_neg (by omega), if_neg (by omega), if_neg (by omega), if_neg (by omega), if_neg (by omega), if_pos e] at hO
    rw [show hI h (hR h x 1) 9 = _ from c3 6 (by decide)]; exact hO
  · rw [if_neg (by omega), if_neg (by omega), if_neg (by omega), if_neg (by omega), if_neg (by omega), if_neg (by omega), if_neg (by omega), if_neg (by omega), if_neg (by omega), if_pos e] at hO
    rw [show hI h (hR h x 1) 10 = _ from c3 7 (by decide)]; exact hO
  · rw [if_neg (by omega), if_neg (by omega), if_neg (by omega), if_neg (by omega), if_neg (by omega), if_neg (by omega), if_neg (by omega), if_neg (by omega), if_neg (by omega), if_neg (by omega), if_pos e] at hO
    rw [show sm 29 (fun s => φ 36 s) = boxN (σ 0) from sm_congr (fun s hs => v3 s hs)]; exact hO
  · rw [if_neg (by omega), if_neg (by omega), if_neg (by omega), if_neg (by omega), if_neg (by omega), if_neg (by omega), if_neg (by omega), if_neg (by omega), if_neg (by omega), if_neg (by omega), if_neg (by omega), if_pos e] at hO
    rw [show hI h (hR h x 1) 6 = _ from c3 3 (by decide)]; exact hO
  · rw [if_neg (by omega), if_neg (by omega), if_neg (by omega), if_neg (by omega), if_neg (by omega), if_neg (by omega), if_neg (by omega), if_neg (by omega), if_neg (by omega), if_neg (by omega), if_neg (by omega), if_neg (by omega), if_pos e] at hO
    rw [show sm nj (fun j => if jb (σ 0) j 4 = -5 then 0 else lateC (σ 0) j) = lateD (σ 0) nj from sm_congr (fun j hj' => late_eq (hL j hj'))]; exact hO
  · rw [if_neg (by omega), if_neg (by omega), if_neg (by omega), if_neg (by omega), if_neg (by omega), if_neg (by omega), if_neg (by omega), if_neg (by omega), if_neg (by omega), if_neg (by omega), if_neg (by omega), if_neg (by omega), if_neg (by omega), if_pos e] at hO
    exact hO
  · rw [if_neg (by omega), if_neg (by omega), if_neg (by omega), if_neg (by omega), if_neg (by omega), if_neg (by omega), if_neg (by omega), if_neg (by omega), if_neg (by omega), if_neg (by omega), if_neg (by omega), if_neg (by omega), if_neg (by omega), if_neg (by omega), if_pos e] at hO
    rw [C.2.1.2.2.1.1, ← C.2.1.2.2.1.2.1]; exact hO
  · rw [if_neg (by omega), if_neg (by omega), if_neg (by omega), if_neg (by omega), if_neg (by omega), if_neg (by omega), if_neg (by omega), if_neg (by omega), if_neg (by omega), if_neg (by omega), if_neg (by omega), if_neg (by omega), if_neg (by omega), if_neg (by omega), if_neg (by omega), if_pos e] at hO
    rw [C.2.1.1]; exact hO
  · rw [if_neg (by omega), if_neg (by omega), if_neg (by omega), if_neg (by omega), if_neg (by omega), if_neg (by omega), if_neg (by omega), if_neg (by omega), if_neg (by omega), if_neg (by omega), if_neg (by omega), if_neg (by omega), if_neg (by omega), if_neg (by omega), if_neg (by omega), if_neg (by omega)] at hO
    exact hO
end CCNT2
