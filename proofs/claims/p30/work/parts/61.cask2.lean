/-! the class's calls: gap, need, missing -/
theorem av_thr {φ : Nat → Nat → Int32} {ρ : Row} {nc j s : Nat} (h6 : nc ≤ 6) (hs : s < 29) (v : ∀ i, i < 174 → φ 35 i = ρ (8 + i)) (z1 : ∀ c, nc ≤ c → c < 6 → ρ (8 + 29 * c + s) = 0) (z2 : ∀ c, nc ≤ c → c < 6 → fm ρ j c s = 0) (z3 : ¬ (jb ρ j 3 = 1 ∨ jb ρ j 3 = 2) → ∀ c, c < 6 → fm ρ j c s = 0) : avF φ ρ j s = thr ρ nc j s := by
  unfold avF thr
  rw [sm_congr (show ∀ c, c < 6 → φ 35 (29 * c + s) = ρ (8 + 29 * c + s) from fun c hc => by rw [v _ (by omega), show 8 + (29 * c + s) = 8 + 29 * c + s by omega]), sm_ext h6 z1, sm_ext h6 z2, ← sm_add]
  refine sm_congr (fun c hc => ?_)
  by_cases e : jb ρ j 3 = 1 ∨ jb ρ j 3 = 2
  · rw [if_pos e]
  · rw [if_neg e, z3 e c (by omega)]
theorem ndC_ndF {ρ : Row} {nc j s : Nat} : ndC ρ j (thr ρ nc j 26) (thr ρ nc j 27) s = ndF ρ nc j (jlen ρ j) s := rfl
theorem mis_eq {a b : Nat} (ha : a < 2 ^ 30) (hb : b < 2 ^ 30) : (if 0 < nI a - nI b then nI a - nI b else 0) = if nI a ≤ nI b then 0 else nI a - nI b := by
  have e : (0 : Int32) < nI a - nI b ↔ ¬ nI a ≤ nI b := by
    rw [Int32.lt_iff_toInt_lt, pk_sub_toInt (by omega) (by omega), nle (by omega) (by omega)]
    have : (0 : Int32).toInt = 0 := by decide
    omega
  by_cases q : nI a ≤ nI b
  · rw [if_pos q, if_neg (fun z => e.mp z q)]
  · rw [if_neg q, if_pos (e.mpr q)]
section CASK2
variable {h : Hp} {x : Nat} {σ : Nat → Nat → Int32} {k : Nat} {K : Int32 → Hp → Prop}
theorem k_gap (C : CR h x σ k) {nj : Nat} (hj : σ 0 1 = nI nj) (h12 : nj ≤ 12) (a l g : Int32) (hO : OC h x σ k K (sp_gap (σ 0) a l g)) : V_X6_gap x a l g h K := by
  unfold V_X6_gap V_X6_gap_65
  unfold sp_gap at hO
  refine ⟨C.n.1, C.n.2.1, k_findJob C hj h12 a (fun hb => ?_) (fun j j1 j2 ja hb hbi jt J J0 => ?_)⟩
  · rw [if_pos hb] at hO
    exact ⟨fun z => absurd rfl z, fun _ => hO.no (FR.rf h) C⟩
  · rw [if_neg hb, hbi] at hO
    have L := J.2.1.2.2.2.2
    refine ⟨fun _ => ⟨J.1, J.2.1.1, L.1, ?_⟩, fun z => absurd z J0⟩
    rw [k_hasLine L jt.2, show (lay (jtx (σ 0) j) (jb (σ 0) j 1) (jlen (σ 0) j)) = jL (σ 0) j from rfl]
    have hb30 : (jL (σ 0) j).1.1 ≤ 30 := (lay_bound (meas := jb (σ 0) j 1) jt.2).1
    have hg30 : (jL (σ 0) j).1.2.2.1 ≤ 30 := (lay_bound (meas := jb (σ 0) j 1) jt.2).2
    rcases rng l (n := (jL (σ 0) j).1.1) (by omega) with hl | ⟨c, hc, rfl, hl⟩
    · rw [if_pos (Or.inl hl)] at hO
      rw [if_pos hl]
      exact ⟨fun z => absurd rfl z, fun _ => hO.no (FR.rf h) C⟩
    · rw [if_neg hl]
      refine ⟨fun _ => ⟨L.1, ?_⟩, fun z => absurd z ne01⟩
      rw [k_firstGap L jt.2 hc, show (lay (jtx (σ 0) j) (jb (σ 0) j 1) (jlen (σ 0) j)) = jL (σ 0) j from rfl]
      refine ⟨fun q => ?_, fun q => ?_⟩
      · rw [if_pos (Or.inr (Or.inl q))] at hO
        exact hO.no (FR.rf h) C
      · have hc1 : (jL (σ 0) j).2.2.2.1 c ≤ 30 := Nat.le_trans (jL_FG (σ 0) j c (by omega)) hg30
        have hc2 : (jL (σ 0) j).2.2.2.1 (c + 1) ≤ 30 := Nat.le_trans (jL_FG (σ 0) j (c + 1) (by omega)) hg30
        obtain ⟨d1, d2, d3⟩ := L.2.2.2.2.1
        rw [ix_nI (by omega), d2, d3 c hc, show (lay (jtx (σ 0) j) (jb (σ 0) j 1) (jlen (σ 0) j)) = jL (σ 0) j from rfl]
        rw [ix_nI (by omega)] at hO
        refine ⟨L.1, d1, vin (by omega) (by decide), fun z => ⟨L.1, ?_⟩, fun z => ?_⟩
        · rw [if_neg (fun w => w.elim hl (fun w => w.elim q (fun w => w z)))] at hO
          obtain ⟨g1, hg1, rfl⟩ := nI_of q
          have hlt : (jL (σ 0) j).2.2.2.1 c + g1 < (jL (σ 0) j).2.2.2.1 (c + 1) := by
            rw [Int32.lt_iff_toInt_lt, pk_sub_toInt (by omega) (by omega), nI_toInt hg1] at z
            omega
          have hle := jL_FG (σ 0) j (c + 1) (by omega)
          rw [nI_add, k_gapWidth L jt.2 (show (jL (σ 0) j).2.2.2.1 c + g1 < (jL (σ 0) j).1.2.2.1 by omega)]
          rw [ix_nI (by omega)] at hO
          exact hO.no (FR.rf h) C
        · unfold gapN at hO
          rw [if_pos (Or.inr (Or.inr z))] at hO
          exact hO.no (FR.rf h) C
/-- what the class knows of a job when it reckons -/
theorem k_reckC (C : CR h x σ k) {nc j c : Nat} (h6 : nc ≤ 6) (J : JobR h (σ 0) j c) (jt : JT (σ 0) j) (z1 : ∀ c s, nc ≤ c → c < 6 → s < 29 → σ 0 (8 + 29 * c + s) = 0) (z2 : ∀ c s, nc ≤ c → c < 6 → s < 29 → fm (σ 0) j c s = 0) (z3 : ¬ (jb (σ 0) j 3 = 1 ∨ jb (σ 0) j 3 = 2) → ∀ c s, c < 6 → s < 29 → fm (σ 0) j c s = 0)
    {K : Hp → Prop} (kk : ∀ h1 φ1, XB h x (hR h x 2) φ1 h1 → CR h1 x σ k → FR h h1 → (∀ s, s < 29 → φ1 38 s = thr (σ 0) nc j s ∧ φ1 37 s = ndF (σ 0) nc j (jlen (σ 0) j) s) → K h1) : V_X6_reckon x c h K := by
  obtain ⟨φ, y, ⟨v1, v2, v3⟩, ve⟩ := C.view
  have hq : ¬ im (hK h (hR h x 2)) := by rw [C.1.2.2.1.1]; unfold im; omega
  have av : ∀ s, s < 29 → avF φ (σ 0) j s = thr (σ 0) nc j s := fun s hs => av_thr h6 hs v2 (fun c a b => z1 c s a b hs) (fun c a b => z2 c s a b hs) (fun e c a => z3 e c s a hs)
  refine k_reckon y hq J jt.2 (fun h1 φ1 y1 e1 e2 e3 => ?_)
  obtain ⟨C1, f1⟩ := C.scr y y1 (fun n a b d _ => e1 n a b d)
  refine kk h1 φ1 y1 C1 f1 (fun s hs => ⟨(e2 s hs).trans (av s hs), ?_⟩)
  rw [e3 s hs, av 26 (by decide), av 27 (by decide)]
  rfl
theorem k_need (C : CR h x σ k) {nc nj : Nat} (h6 : nc ≤ 6) (hj : σ 0 1 = nI nj) (h12 : nj ≤ 12) (z1 : ∀ c s, nc ≤ c → c < 6 → s < 29 → σ 0 (8 + 29 * c + s) = 0) (z2 : ∀ j c s, j < nj → nc ≤ c → c < 6 → s < 29 → fm (σ 0) j c s = 0) (z3 : ∀ j, j < nj → ¬ (jb (σ 0) j 3 = 1 ∨ jb (σ 0) j 3 = 2) → ∀ c s, c < 6 → s < 29 → fm (σ 0) j c s = 0)
    (a s : Int32) (hO : OC h x σ k K (sp_need (σ 0) nc a s)) : V_X6_need x a s h K := by
  unfold V_X6_need V_X6_need_20
  unfold sp_need at hO
  refine ⟨C.n.1, C.n.2.1, k_findJob C hj h12 a (fun hb => ?_) (fun j j1 j2 ja hb hbi jt J J0 => ?_)⟩
  · rw [if_pos (Or.inl hb)] at hO
    exact ⟨fun _ => hO.no (FR.rf h) C, fun z => absurd rfl z⟩
  · refine ⟨fun z => absurd z J0, fun _ => ?_⟩
    rw [k_isSort]
    rcases badS_of s with hs | ⟨t, ht, rfl, hs, hsi⟩
    · rw [if_pos hs]
      rw [if_pos (Or.inr hs)] at hO
      exact ⟨fun z => absurd rfl z, fun _ => hO.no (FR.rf h) C⟩
    · rw [if_neg hs]
      rw [if_neg (fun z => z.elim hb hs), hbi, hsi] at hO
      refine ⟨fun _ => ⟨C.n.1, k_reckC C h6 J jt z1 (fun c s => z2 j c s j1) (z3 j j1) (fun h1 φ1 y1 C1 f1 e1 => ?_)⟩, fun z => absurd z ne01⟩
      simp only [y1.s, ix_nI (show t < 2 ^ 31 by omega), show vp_in (nI t) 29 from vin (by omega) (by omega), true_and, (e1 t ht).2]
      exact hO.no f1 C1
theorem k_missing (C : CR h x σ k) {nc nj : Nat} (h6 : nc ≤ 6) (hj : σ 0 1 = nI nj) (h12 : nj ≤ 12) (z1 : ∀ c s, nc ≤ c → c < 6 → s < 29 → σ 0 (8 + 29 * c + s) = 0) (z2 : ∀ j c s, j < nj → nc ≤ c → c < 6 → s < 29 → fm (σ 0) j c s = 0) (z3 : ∀ j, j < nj → ¬ (jb (σ 0) j 3 = 1 ∨ jb (σ 0) j 3 = 2) → ∀ c s, c < 6 → s < 29 → fm (σ 0) j c s = 0)
    (hsm : ∀ j s, j < nj → s < 29 → ∃ a b, a < 2 ^ 30 ∧ b < 2 ^ 30 ∧ ndF (σ 0) nc j (jlen (σ 0) j) s = nI a ∧ thr (σ 0) nc j s = nI b) (a s : Int32) (hO : OC h x σ k K (sp_missing (σ 0) nc a s)) : V_X6_missing x a s h K := by
  unfold V_X6_missing V_X6_missing_20
  unfold sp_missing at hO
  refine ⟨C.n.1, C.n.2.1, k_findJob C hj h12 a (fun hb => ?_) (fun j j1 j2 ja hb hbi jt J J0 => ?_)⟩
  · rw [if_pos (Or.inl hb)] at hO
    exact ⟨fun _ => hO.no (FR.rf h) C, fun z => absurd rfl z⟩
  · refine ⟨fun z => absurd z J0, fun _ => ?_⟩
    rw [k_isSort]
    rcases badS_of s with hs | ⟨t, ht, rfl, hs, hsi⟩
    · rw [if_pos hs]
      rw [if_pos (Or.inr hs)] at hO
      exact ⟨fun z => absurd rfl z, fun _ => hO.no (FR.rf h) C⟩
    · rw [if_neg hs]
      rw [if_neg (fun z => z.elim hb hs), hbi, hsi] at hO
      refine ⟨fun _ => ⟨C.n.1, k_reckC C h6 J jt z1 (fun c s => z2 j c s j1) (z3 j j1) (fun h1 φ1 y1 C1 f1 e1 => ?_)⟩, fun z => absurd z ne01⟩
      refine ⟨y1.K 7 rfl, ?_⟩
      rw [k_missingOf y1 ht, (e1 t ht).1, (e1 t ht).2]
      obtain ⟨p, q, hp, hq, e2, e3⟩ := hsm j t j1 ht
      have e4 : lkF (σ 0) nc j t = (if 0 < ndF (σ 0) nc j (jlen (σ 0) j) t - thr (σ 0) nc j t then ndF (σ 0) nc j (jlen (σ 0) j) t - thr (σ 0) nc j t else 0) := by
        unfold lkF
        rw [e2, e3, mis_eq hp hq]
      rw [← e4]
      exact hO.no f1 C1
end CASK2
