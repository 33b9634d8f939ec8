/-! the reference's calls: the piece at a place -/
theorem lyI_line {tx : Nat → Int32} {meas : Int32} {len : Nat} : ∀ i, i ≤ len + 1 → (lyI tx meas len i).1 ≤ i ∧ ∀ l, l < (lyI tx meas len i).2.1.1 → (lyI tx meas len i).2.2.1 l ≤ (lyI tx meas len i).2.2.2.1 l ∧ (lyI tx meas len i).2.2.2.1 l ≤ len ∧
    (lyI tx meas len i).2.2.2.2.1 l + gc (cB tx ((lyI tx meas len i).2.2.1 l) ((lyI tx meas len i).2.2.2.1 l - (lyI tx meas len i).2.2.1 l)) = (lyI tx meas len i).2.2.2.2.1 (l + 1) := by
  intro i
  induction i with
  | zero => intro _; exact ⟨Nat.le_refl _, fun l hl => absurd hl (Nat.not_lt_zero _)⟩
  | succ i ih =>
    intro hi
    obtain ⟨h1, h2⟩ := ih (by omega)
    have hFG := lyI_FG (tx := tx) (meas := meas) (len := len) i
    unfold lyI
    by_cases e : i = len ∨ tx i = 47
    · rw [if_pos e]
      refine ⟨Nat.le_refl _, fun l hl => ?_⟩
      have hl' : l < (lyI tx meas len i).2.1.1 + 1 := hl
      show (if l = (lyI tx meas len i).2.1.1 then (lyI tx meas len i).1 else (lyI tx meas len i).2.2.1 l) ≤ (if l = (lyI tx meas len i).2.1.1 then i else (lyI tx meas len i).2.2.2.1 l) ∧ (if l = (lyI tx meas len i).2.1.1 then i else (lyI tx meas len i).2.2.2.1 l) ≤ len ∧
        (if l = (lyI tx meas len i).2.1.1 + 1 then (lyI tx meas len i).2.1.2.2.1 + gc (cB tx (lyI tx meas len i).1 (i - (lyI tx meas len i).1)) else if l = (lyI tx meas len i).2.1.1 then (lyI tx meas len i).2.1.2.2.1 else (lyI tx meas len i).2.2.2.2.1 l) + gc (cB tx (if l = (lyI tx meas len i).2.1.1 then (lyI tx meas len i).1 else (lyI tx meas len i).2.2.1 l) ((if l = (lyI tx meas len i).2.1.1 then i else (lyI tx meas len i).2.2.2.1 l) - (if l = (lyI tx meas len i).2.1.1 then (lyI tx meas len i).1 else (lyI tx meas len i).2.2.1 l))) =
        (if l + 1 = (lyI tx meas len i).2.1.1 + 1 then (lyI tx meas len i).2.1.2.2.1 + gc (cB tx (lyI tx meas len i).1 (i - (lyI tx meas len i).1)) else if l + 1 = (lyI tx meas len i).2.1.1 then (lyI tx meas len i).2.1.2.2.1 else (lyI tx meas len i).2.2.2.2.1 (l + 1))
      by_cases el : l = (lyI tx meas len i).2.1.1
      · rw [if_pos el, if_pos el, if_neg (show ¬ l = (lyI tx meas len i).2.1.1 + 1 by omega), if_pos el, if_pos (show l + 1 = (lyI tx meas len i).2.1.1 + 1 by omega)]
        exact ⟨h1, by omega, rfl⟩
      · obtain ⟨p1, p2, p3⟩ := h2 l (by omega)
        rw [if_neg el, if_neg el, if_neg (show ¬ l = (lyI tx meas len i).2.1.1 + 1 by omega), if_neg el, if_neg (show ¬ l + 1 = (lyI tx meas len i).2.1.1 + 1 by omega)]
        refine ⟨p1, p2, ?_⟩
        rw [p3]
        by_cases e3 : l + 1 = (lyI tx meas len i).2.1.1
        · rw [if_pos e3, e3]; exact hFG (by omega)
        · rw [if_neg e3]
    · rw [if_neg e]
      exact ⟨by omega, h2⟩
theorem jL_line (ρ : Row) (j l : Nat) (hl : l < (jL ρ j).1.1) : (jL ρ j).2.1 l ≤ (jL ρ j).2.2.1 l ∧ (jL ρ j).2.2.1 l ≤ jlen ρ j ∧ (jL ρ j).2.2.2.1 l + gc (cB (jtx ρ j) ((jL ρ j).2.1 l) ((jL ρ j).2.2.1 l - (jL ρ j).2.1 l)) = (jL ρ j).2.2.2.1 (l + 1) :=
  (lyI_line (tx := jtx ρ j) (meas := jb ρ j 1) (len := jlen ρ j) (jlen ρ j + 1) (Nat.le_refl _)).2 l hl
theorem cB_front (tx : Nat → Int32) (i d : Nat) : cB tx i (d + 1) = (if isL (tx i) then 0 else 1) + cB tx (i + 1) d := by
  have := cB_app tx i 1 d
  rw [show 1 + d = d + 1 by omega] at this
  rw [this]
  show 0 + (if isL (tx (i + 0)) then 0 else 1) + _ = _
  rw [Nat.zero_add]
  rfl
theorem gc_ge (B : Nat) : B ≤ gc B := by
  unfold gc
  split <;> omega
/-- how many spaces, which space is the p-th, of a fill -/
def spN (v : Int32) : Int32 := ((v / 1000000) + ((v / 1000) - (v / 1000) / 1000 * 1000)) + (v - v / 1000 * 1000)
def spA (v p : Int32) : Int32 := if v / 1000000 ≤ p then (if (v / 1000000) + ((v / 1000) - (v / 1000) / 1000 * 1000) ≤ p then (if spN v ≤ p then -5 else 49) else 50) else 52
def pcW (tx : Nat → Int32) (F : Nat → Int32) (G : Nat) : Nat → Int32 → Nat → Nat → Int32
  | 0, p, g, _ => if G ≤ g then -5 else spA (F g) p
  | d + 1, p, g, i => if isL (tx i) then (if p = 0 then tx i else pcW tx F G d (p + (-1)) g (i + 1)) else if spN (F g) ≤ p then pcW tx F G d (p - spN (F g)) (g + 1) (i + 1) else spA (F g) p
def sp_pieceAt (ρ : Row) (a l p : Int32) : Ans := if badJ ρ a then no (-1) else if ¬ (jb ρ (ix a) 3 = 1 ∨ jb ρ (ix a) 3 = 2) then no (-4) else if (l < 0 ∨ nI (jL ρ (ix a)).1.1 - 1 < l) ∨ ¬ 0 ≤ p then no (-5) else
  no (pcW (jtx ρ (ix a)) (fun g => jb ρ (ix a) (241 + g)) ((jL ρ (ix a)).2.2.2.1 (ix l + 1)) ((jL ρ (ix a)).2.2.1 (ix l) - (jL ρ (ix a)).2.1 (ix l)) p ((jL ρ (ix a)).2.2.2.1 (ix l)) ((jL ρ (ix a)).2.1 (ix l)))
section MPIECE
variable {h0 h : Hp} {m : Nat} {σ : Nat → Nat → Int32} {K : Int32 → Hp → Prop} {k : Nat}
theorem s_spaces (v : Int32) : V_X7_spaces v h K ↔ K (spN v) h := Iff.rfl
theorem s_spaceAt (v p : Int32) (hK : K (spA v p) h) : V_X7_spaceAt m v p h K := by
  unfold V_X7_spaceAt V_X7_spaceAt_64
  unfold spA at hK
  refine ⟨fun a => ⟨fun b => ⟨fun c => ?_, fun c => ?_⟩, fun b => ?_⟩, fun a => ?_⟩
  · rw [if_pos a, if_pos b, if_pos (show spN v ≤ p from c)] at hK; exact hK
  · rw [if_pos a, if_pos b, if_neg (show ¬ spN v ≤ p from c)] at hK; exact hK
  · rw [if_pos a, if_neg b] at hK; exact hK
  · rw [if_neg a] at hK; exact hK
theorem s_pc66 (x : MB h0 m σ h) {j l e G : Nat} (hj : j < 12) (hl : l ≤ 30) (tx : Nat → Int32) (h13 : σ 13 l = nI e) (he : e ≤ 60) (h14 : σ 14 (l + 1) = nI G) (hG : G ≤ 30) (h8 : ∀ i, i < e → σ 8 i = tx i) :
    ∀ (d i n g : Nat) (p : Int32), i + d = e → d < n → g + cB tx i d ≤ 30 → K (pcW tx (fun g => jb (σ 0) j (241 + g)) G d p g i) h → V_X7_pieceAt_66 K n m (nI j) (nI l) p (nI g) (nI i) h := by
  intro d
  induction d with
  | zero =>
    intro i n g p h1 h2 hg hk
    obtain ⟨n, rfl⟩ : ∃ k, n = k + 1 := ⟨n - 1, by omega⟩
    obtain rfl : i = e := by omega
    unfold V_X7_pieceAt_66 V_X7_pieceAt_195
    unfold pcW at hk
    simp only [x.s, true_and, ix_nI (show l < 2 ^ 31 by omega), show vp_in (nI l) 31 from vin (by omega) (by omega), h13, nI_1, ix_nI (show l + 1 < 2 ^ 31 by omega), show vp_in (nI (l + 1)) 32 from vin (by omega) (by omega), h14]
    rw [nle (by omega) (by omega), nle (by omega) (by omega)]
    refine ⟨fun _ => ⟨fun q => ?_, fun q => ?_⟩, fun q => absurd (Nat.le_refl _) q⟩
    · rw [if_pos q] at hk; exact hk
    · rw [if_neg q] at hk
      rw [e241, s_ofJob x hj (show 241 + g < 272 by omega)]
      exact ⟨x.k, s_spaceAt _ _ hk⟩
  | succ d ih =>
    intro i n g p h1 h2 hg hk
    obtain ⟨n, rfl⟩ : ∃ k, n = k + 1 := ⟨n - 1, by omega⟩
    rw [cB_front] at hg
    unfold V_X7_pieceAt_66 V_X7_pieceAt_154
    unfold pcW at hk
    simp only [x.s, true_and, ix_nI (show l < 2 ^ 31 by omega), show vp_in (nI l) 31 from vin (by omega) (by omega), h13, ix_nI (show i < 2 ^ 31 by omega), show vp_in (nI i) 60 from vin (by omega) (by omega), h8 i (by omega), s_isLetter]
    rw [nle (by omega) (by omega)]
    refine ⟨fun q => absurd q (by omega), fun _ => ?_⟩
    by_cases eL : isL (tx i)
    · rw [if_pos eL] at hk hg
      rw [if_neg eL]
      refine ⟨fun q => absurd q ne01, fun _ => ⟨fun q => ?_, fun q => ?_⟩⟩
      · rw [if_neg q] at hk
        rw [nI_1]
        exact ih (i + 1) n g _ (by omega) (by omega) (by omega) hk
      · rw [if_pos q] at hk
        exact hk
    · rw [if_neg eL] at hk hg
      rw [if_pos (Classical.not_not.mp eL)]
      refine ⟨fun _ => ?_, fun q => absurd rfl q⟩
      rw [e241, s_ofJob x hj (show 241 + g < 272 by omega)]
      simp only [s_spaces]
      refine ⟨fun q => ?_, fun q => ?_⟩
      · rw [if_pos (show spN (jb (σ 0) j (241 + g)) ≤ p from q)] at hk
        rw [nI_1, nI_1]
        exact ih (i + 1) n (g + 1) _ (by omega) (by omega) (by omega) hk
      · rw [if_neg (show ¬ spN (jb (σ 0) j (241 + g)) ≤ p from q)] at hk
        exact ⟨x.k, s_spaceAt _ _ hk⟩
theorem m_pieceAt (x : MB h0 m σ h) {nj : Nat} (hj : σ 0 1 = nI nj) (h12 : nj ≤ 12) (hJ : ∀ j, j < nj → JT (σ 0) j) (a l p : Int32) (hO : OM h0 m σ k K (sp_pieceAt (σ 0) a l p)) : V_X7_pieceAt m a l p h K := by
  unfold V_X7_pieceAt V_X7_pieceAt_44
  unfold sp_pieceAt at hO
  simp only [x.s, s_noJob x, true_and]
  rcases badJ_of hj h12 a with hb | ⟨j, hj1, hj2, rfl, hb, hbi⟩
  · rw [if_pos hb] at hO ⊢
    exact ⟨fun q => absurd q ne01, fun _ => hO.no x Idle.rf⟩
  · rw [if_neg hb] at hO ⊢
    rw [hbi] at hO
    refine ⟨fun _ => ?_, fun q => absurd rfl q⟩
    rw [s_hasForme x hj2]
    rw [show jb (σ 0) j 3 = σ 0 (211 + 272 * j + 3) from rfl] at hO
    by_cases ef : σ 0 (211 + 272 * j + 3) = 1 ∨ σ 0 (211 + 272 * j + 3) = 2
    · rw [if_neg (fun q => q ef)] at hO
      rw [if_pos ef]
      refine ⟨fun _ => ⟨x.k, ?_⟩, fun q => absurd q ne01⟩
      refine s_layJob x hj2 (hJ j hj1).1 (hJ j hj1).2 (fun h1 σ1 x1 f1 f7 f8 hL => ?_)
      obtain ⟨l9, l10, l11, l16, l12, l14, l15⟩ := hL
      rw [show jlay (σ 0) j (jlen (σ 0) j) = jL (σ 0) j from rfl] at l9 l10 l11 l16 l12 l14 l15
      have hb30 : (jL (σ 0) j).1.1 ≤ 30 := (lay_bound (meas := jb (σ 0) j 1) (hJ j hj1).2).1
      have hg30 : (jL (σ 0) j).1.2.2.1 ≤ 30 := (lay_bound (meas := jb (σ 0) j 1) (hJ j hj1).2).2
      have hlen := (hJ j hj1).2.2.1
      simp only [x1.s, true_and, s_in, l9]
      rcases rng l (n := (jL (σ 0) j).1.1) (by omega) with hl | ⟨c, hc, rfl, hl⟩
      · rw [if_pos (Or.inl hl)] at hO
        rw [if_pos hl]
        exact ⟨fun _ => hO.no x1 f1, fun q => absurd rfl q⟩
      · rw [if_neg hl]
        refine ⟨fun q => absurd q ne01, fun _ => ⟨fun q => ?_, fun q => ?_⟩⟩
        · rw [if_neg (fun w => w.elim hl (fun w => w q)), ix_nI (by omega)] at hO
          have hc1 : (jL (σ 0) j).2.2.2.1 (c + 1) ≤ 30 := Nat.le_trans (jL_FG (σ 0) j (c + 1) (by omega)) hg30
          obtain ⟨q1, q2, q3⟩ := jL_line (σ 0) j c hc
          have q4 := gc_ge (cB (jtx (σ 0) j) ((jL (σ 0) j).2.1 c) ((jL (σ 0) j).2.2.1 c - (jL (σ 0) j).2.1 c))
          simp only [ix_nI (show c < 2 ^ 31 by omega), show vp_in (nI c) 32 from vin (by omega) (by omega), show vp_in (nI c) 31 from vin (by omega) (by omega), true_and, l14 c (by omega) (jL_pos _ _), (l12 c hc).1]
          refine ⟨(jL (σ 0) j).2.2.1 c - (jL (σ 0) j).2.1 c + 1, s_pc66 x1 hj2 (by omega) (jtx (σ 0) j) (l12 c hc).2 (by omega) (l14 (c + 1) (by omega) (jL_pos _ _)) hc1 (fun i hi => f8 i (Nat.lt_of_lt_of_le hi q2)) ((jL (σ 0) j).2.2.1 c - (jL (σ 0) j).2.1 c) ((jL (σ 0) j).2.1 c) _ ((jL (σ 0) j).2.2.2.1 c) p (by omega) (Nat.lt_succ_self _) (by omega) ?_⟩
          rw [f1 0 (by decide)]
          exact hO.no x1 f1
        · rw [if_pos (Or.inr q)] at hO
          exact hO.no x1 f1
    · rw [if_pos ef] at hO
      rw [if_neg ef]
      exact ⟨fun q => absurd rfl q, fun _ => hO.no x Idle.rf⟩
end MPIECE
