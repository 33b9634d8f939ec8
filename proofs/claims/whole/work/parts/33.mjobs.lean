/-! the reference's calls: what is told of jobs, what is missing -/
def jlen (ρ : Row) (j : Nat) : Nat := ix (jb ρ j 6)
def JT (ρ : Row) (j : Nat) : Prop := jb ρ j 6 = nI (jlen ρ j) ∧ FF (jtx ρ j) (jlen ρ j)
def lkF (ρ : Row) (nc j s : Nat) : Int32 := if ndF ρ nc j (jlen ρ j) s ≤ thr ρ nc j s then 0 else ndF ρ nc j (jlen ρ j) s - thr ρ nc j s
def sp_need (ρ : Row) (nc : Nat) (a s : Int32) : Ans := if badJ ρ a ∨ badS s then no (-1) else no (ndF ρ nc (ix a) (jlen ρ (ix a)) (ix s))
def sp_missing (ρ : Row) (nc : Nat) (a s : Int32) : Ans := if badJ ρ a ∨ badS s then no (-1) else no (lkF ρ nc (ix a) (ix s))
def jL (ρ : Row) (j : Nat) : LySt := jlay ρ j (jlen ρ j)
def sp_job (ρ : Row) (nc : Nat) (a w : Int32) : Ans := if badJ ρ a then no (-1) else
  if w.toInt = 0 then no (jb ρ (ix a) 0) else if w.toInt = 1 then no (jb ρ (ix a) 1) else if w.toInt = 2 then no (jb ρ (ix a) 2) else if w.toInt = 3 then no (jb ρ (ix a) 3) else
  if w.toInt = 4 then no (nI (jL ρ (ix a)).1.1) else if w.toInt = 5 then no (nI (jL ρ (ix a)).1.2.1) else if w.toInt = 6 then no (nI (jL ρ (ix a)).1.2.2.1) else
  if w.toInt = 7 then no (formeN ρ nc (ix a)) else if w.toInt = 8 then no (formeO ρ nc (ix a)) else if w.toInt = 9 then no (jb ρ (ix a) 4) else if w.toInt = 10 then no (jb ρ (ix a) 5) else no (-2)
def badLn (ρ : Row) (j : Nat) (l : Int32) : Prop := l < 0 ∨ nI (jL ρ j).1.1 - 1 < l
def gapN (ρ : Row) (j l : Nat) : Int32 := nI ((jL ρ j).2.2.2.1 (l + 1)) - nI ((jL ρ j).2.2.2.1 l)
def sp_gap (ρ : Row) (a l g : Int32) : Ans := if badJ ρ a then no (-1) else if (l < 0 ∨ nI (jL ρ (ix a)).1.1 - 1 < l) ∨ g < 0 ∨ ¬ g < gapN ρ (ix a) (ix l) then no (-5) else no ((jL ρ (ix a)).2.2.2.2 ((jL ρ (ix a)).2.2.2.1 (ix l) + ix g))
def lkN (ρ : Row) (nc j : Nat) : Int32 := sm 29 (lkF ρ nc j)
def sp_castMissing (ρ : Row) (nc : Nat) (a : Int32) : Ans := if badJ ρ a then no (-1) else if jb ρ (ix a) 3 = 0 then (if lkN ρ nc (ix a) = 0 then no (-5) else castW ρ (ix (jb ρ (ix a) 0)) (lkF ρ nc (ix a)) (lkN ρ nc (ix a))) else no (-4)
theorem lyL_FG_mono {tx : Nat → Int32} {meas : Int32} {len : Nat} : ∀ i l, l ≤ (lyI tx meas len i).2.1.1 → 0 < (lyI tx meas len i).2.1.1 → (lyI tx meas len i).2.2.2.2.1 l ≤ (lyI tx meas len i).2.1.2.2.1 := by
  intro i
  induction i with
  | zero => intro l _ h; exact absurd h (Nat.lt_irrefl 0)
  | succ i ih =>
    intro l
    unfold lyI
    by_cases e : i = len ∨ tx i = 47
    · rw [if_pos e]
      intro hl _
      have hl' : l ≤ (lyI tx meas len i).2.1.1 + 1 := hl
      show (if l = (lyI tx meas len i).2.1.1 + 1 then (lyI tx meas len i).2.1.2.2.1 + gc _ else if l = (lyI tx meas len i).2.1.1 then (lyI tx meas len i).2.1.2.2.1 else (lyI tx meas len i).2.2.2.2.1 l) ≤ (lyI tx meas len i).2.1.2.2.1 + gc _
      by_cases a : l = (lyI tx meas len i).2.1.1 + 1
      · rw [if_pos a]; exact Nat.le_refl _
      · rw [if_neg a]
        by_cases b : l = (lyI tx meas len i).2.1.1
        · rw [if_pos b]; omega
        · rw [if_neg b]
          have := ih l (by omega) (by omega)
          omega
    · rw [if_neg e]; exact ih l
section MJOBS
variable {h0 h : Hp} {m : Nat} {σ : Nat → Nat → Int32} {K : Int32 → Hp → Prop} {k : Nat}
theorem jL_pos (ρ : Row) (j : Nat) : 0 < (jL ρ j).1.1 := by
  unfold jL jlay
  rw [lay_last]
  exact Nat.succ_pos _
theorem jL_FG (ρ : Row) (j l : Nat) (hl : l ≤ (jL ρ j).1.1) : (jL ρ j).2.2.2.1 l ≤ (jL ρ j).1.2.2.1 := lyL_FG_mono _ l hl (jL_pos ρ j)
theorem m_need (x : MB h0 m σ h) {nc nj : Nat} (hn : σ 0 0 = nI nc) (hn6 : nc ≤ 6) (hj : σ 0 1 = nI nj) (h12 : nj ≤ 12) (hJ : ∀ j, j < nj → JT (σ 0) j) (a s : Int32) (hO : OM h0 m σ k K (sp_need (σ 0) nc a s)) : V_X7_need m a s h K := by
  unfold V_X7_need V_X7_need_15
  unfold sp_need at hO
  simp only [x.s, s_noJob x, s_noSort, true_and]
  rcases badJ_of hj h12 a with hb | ⟨j, hj1, hj2, rfl, hb, hbi⟩
  · rw [if_pos (Or.inl hb)] at hO
    rw [if_pos hb]
    exact ⟨fun _ => hO.no x Idle.rf, fun q => absurd q ne01⟩
  · rw [if_neg hb]
    refine ⟨fun q => absurd rfl q, fun _ => ?_⟩
    rcases badS_of s with hs | ⟨t, ht, rfl, hs, hsi⟩
    · rw [if_pos (Or.inr hs)] at hO
      rw [if_pos hs]
      exact ⟨fun q => absurd q ne01, fun _ => hO.no x Idle.rf⟩
    · rw [if_neg (fun q => q.elim hb hs), hbi, hsi] at hO
      rw [if_neg hs]
      refine ⟨fun _ => s_layNeeds x hj2 hn hn6 (hJ j hj1).1 (hJ j hj1).2 (fun h1 σ1 x1 f1 f8 hL hN => ?_), fun q => absurd rfl q⟩
      simp only [x1.s, ix_nI (show t < 2 ^ 31 by omega), show vp_in (nI t) 29 from vin (by omega) (by omega), true_and]
      rw [(hN.1 t ht).1]
      exact hO.no x1 f1
theorem m_missing (x : MB h0 m σ h) {nc nj : Nat} (hn : σ 0 0 = nI nc) (hn6 : nc ≤ 6) (hj : σ 0 1 = nI nj) (h12 : nj ≤ 12) (hJ : ∀ j, j < nj → JT (σ 0) j) (a s : Int32) (hO : OM h0 m σ k K (sp_missing (σ 0) nc a s)) : V_X7_missing m a s h K := by
  unfold V_X7_missing V_X7_missing_15
  unfold sp_missing at hO
  simp only [x.s, s_noJob x, s_noSort, true_and]
  rcases badJ_of hj h12 a with hb | ⟨j, hj1, hj2, rfl, hb, hbi⟩
  · rw [if_pos (Or.inl hb)] at hO
    rw [if_pos hb]
    exact ⟨fun _ => hO.no x Idle.rf, fun q => absurd q ne01⟩
  · rw [if_neg hb]
    refine ⟨fun q => absurd rfl q, fun _ => ?_⟩
    rcases badS_of s with hs | ⟨t, ht, rfl, hs, hsi⟩
    · rw [if_pos (Or.inr hs)] at hO
      rw [if_pos hs]
      exact ⟨fun q => absurd q ne01, fun _ => hO.no x Idle.rf⟩
    · rw [if_neg (fun q => q.elim hb hs), hbi, hsi] at hO
      rw [if_neg hs]
      refine ⟨fun _ => s_layNeeds x hj2 hn hn6 (hJ j hj1).1 (hJ j hj1).2 (fun h1 σ1 x1 f1 f8 hL hN => ⟨x1.k, (s_lacks x1 ht).mpr ?_⟩), fun q => absurd rfl q⟩
      unfold lk
      rw [(hN.1 t ht).1, (hN.1 t ht).2]
      exact hO.no x1 f1
theorem toInt_eq {w v : Int32} (h : w.toInt = v.toInt) : w = v := Int32.toInt_inj.mp h
theorem m_job (x : MB h0 m σ h) {nc nj : Nat} (hn : σ 0 0 = nI nc) (hn6 : nc ≤ 6) (hj : σ 0 1 = nI nj) (h12 : nj ≤ 12) (hJ : ∀ j, j < nj → JT (σ 0) j) (a w : Int32) (hO : OM h0 m σ k K (sp_job (σ 0) nc a w)) : V_X7_job m a w h K := by
  unfold V_X7_job
  unfold sp_job at hO
  simp only [x.s, s_noJob x, true_and]
  rcases badJ_of hj h12 a with hb | ⟨j, hj1, hj2, rfl, hb, hbi⟩
  · rw [if_pos hb] at hO ⊢
    exact ⟨fun q => absurd q ne01, fun _ => hO.no x Idle.rf⟩
  · rw [if_neg hb] at hO ⊢
    rw [hbi] at hO
    refine ⟨fun _ => ?_, fun q => absurd rfl q⟩
    refine s_layJob x hj2 (hJ j hj1).1 (hJ j hj1).2 (fun h1 σ1 x1 f1 f7 f8 hL => ?_)
    have e0 := f1 0 (by decide)
    obtain ⟨l9, l10, l11, -⟩ := hL
    rw [show jlay (σ 0) j (jlen (σ 0) j) = jL (σ 0) j from rfl] at l9 l10 l11
    have ans : ∀ r, OM h0 m σ k K (no r) → K r h1 := fun r hr => hr.no x1 f1
    refine ⟨fun q => ?_, fun q => ?_, fun q => ?_, fun q => ?_, fun q => ?_, fun q => ?_, fun q => ?_, fun q => ?_, fun q => ?_, fun q => ?_, fun q => ?_, fun q => ?_⟩
    · simp only [q] at hO
      obtain rfl : w = 0 := toInt_eq q
      rw [s_oj x1 hj2 0 (by decide) (v := 0) rfl, e0]
      exact ⟨x1.k, ans _ hO⟩
    · simp only [q] at hO
      obtain rfl : w = 1 := toInt_eq q
      rw [s_oj x1 hj2 1 (by decide) (v := 1) rfl, e0]
      exact ⟨x1.k, ans _ hO⟩
    · simp only [q] at hO
      obtain rfl : w = 2 := toInt_eq q
      rw [s_oj x1 hj2 2 (by decide) (v := 2) rfl, e0]
      exact ⟨x1.k, ans _ hO⟩
    · simp only [q] at hO
      obtain rfl : w = 3 := toInt_eq q
      rw [s_oj x1 hj2 3 (by decide) (v := 3) rfl, e0]
      exact ⟨x1.k, ans _ hO⟩
    · rw [x1.rs 9 rfl, l9]; simp only [q] at hO
      exact ⟨x1.k, ans _ hO⟩
    · rw [x1.rs 10 rfl, l10]; simp only [q] at hO
      exact ⟨x1.k, ans _ hO⟩
    · rw [x1.rs 11 rfl, l11]; simp only [q] at hO
      exact ⟨x1.k, ans _ hO⟩
    · simp only [q] at hO
      refine ⟨x1.k, s_inFormeOf x1 hj2 (by rw [e0]; exact hn) hn6 0 ?_⟩
      rw [e0]
      exact ans _ hO
    · simp only [q] at hO
      refine ⟨x1.k, s_inFormeOf x1 hj2 (by rw [e0]; exact hn) hn6 1 ?_⟩
      rw [e0]
      have := ans _ hO
      exact this
    · rw [s_oj x1 hj2 4 (by decide) (v := 4) rfl, e0]; simp only [q] at hO
      exact ⟨x1.k, ans _ hO⟩
    · rw [s_oj x1 hj2 5 (by decide) (v := 5) rfl, e0]; simp only [q] at hO
      exact ⟨x1.k, ans _ hO⟩
    · rw [if_neg (by omega), if_neg (by omega), if_neg (by omega), if_neg (by omega), if_neg (by omega), if_neg (by omega), if_neg (by omega), if_neg (by omega), if_neg (by omega), if_neg (by omega), if_neg (by omega)] at hO
      exact ans _ hO
theorem m_gap (x : MB h0 m σ h) {nj : Nat} (hj : σ 0 1 = nI nj) (h12 : nj ≤ 12) (hJ : ∀ j, j < nj → JT (σ 0) j) (a l g : Int32) (hO : OM h0 m σ k K (sp_gap (σ 0) a l g)) : V_X7_gap m a l g h K := by
  unfold V_X7_gap V_X7_gap_52
  unfold sp_gap at hO
  simp only [x.s, s_noJob x, true_and]
  rcases badJ_of hj h12 a with hb | ⟨j, hj1, hj2, rfl, hb, hbi⟩
  · rw [if_pos hb] at hO ⊢
    exact ⟨fun q => absurd q ne01, fun _ => hO.no x Idle.rf⟩
  · rw [if_neg hb] at hO ⊢
    rw [hbi] at hO
    refine ⟨fun _ => ?_, fun q => absurd rfl q⟩
    refine s_layJob x hj2 (hJ j hj1).1 (hJ j hj1).2 (fun h1 σ1 x1 f1 f7 f8 hL => ?_)
    obtain ⟨l9, l10, l11, l16, l12, l14, l15⟩ := hL
    rw [show jlay (σ 0) j (jlen (σ 0) j) = jL (σ 0) j from rfl] at l9 l10 l11 l16 l12 l14 l15
    have hb30 : (jL (σ 0) j).1.1 ≤ 30 := (lay_bound (meas := jb (σ 0) j 1) (hJ j hj1).2).1
    have hg30 : (jL (σ 0) j).1.2.2.1 ≤ 30 := (lay_bound (meas := jb (σ 0) j 1) (hJ j hj1).2).2
    simp only [x1.s, true_and, s_in, l9]
    rcases rng l (n := (jL (σ 0) j).1.1) (by omega) with hl | ⟨c, hc, rfl, hl⟩
    · rw [if_pos (Or.inl hl)] at hO
      rw [if_pos hl]
      exact ⟨fun _ => hO.no x1 f1, fun q => absurd rfl q⟩
    · rw [if_neg hl]
      refine ⟨fun q => absurd q ne01, fun _ => ⟨fun q => ?_, fun q => ?_⟩⟩
      · rw [if_pos (Or.inr (Or.inl q))] at hO
        exact hO.no x1 f1
      · have hc1 : (jL (σ 0) j).2.2.2.1 c ≤ 30 := Nat.le_trans (jL_FG (σ 0) j c (by omega)) hg30
        have hc2 : (jL (σ 0) j).2.2.2.1 (c + 1) ≤ 30 := Nat.le_trans (jL_FG (σ 0) j (c + 1) (by omega)) hg30
        simp only [nI_1, ix_nI (show c < 2 ^ 31 by omega), ix_nI (show c + 1 < 2 ^ 31 by omega), show vp_in (nI c) 32 from vin (by omega) (by omega), show vp_in (nI (c + 1)) 32 from vin (by omega) (by omega), true_and, l14 c (by omega) (jL_pos _ _), l14 (c + 1) (by omega) (jL_pos _ _)]
        rw [ix_nI (by omega)] at hO
        refine ⟨fun z => ?_, fun z => ?_⟩
        · rw [if_neg (fun w => w.elim hl (fun w => w.elim q (fun w => w z)))] at hO
          obtain ⟨g1, hg1, rfl⟩ := nI_of q
          have hlt : (jL (σ 0) j).2.2.2.1 c + g1 < (jL (σ 0) j).2.2.2.1 (c + 1) := by
            rw [Int32.lt_iff_toInt_lt, pk_sub_toInt (by omega) (by omega), nI_toInt hg1] at z
            omega
          have hle := jL_FG (σ 0) j (c + 1) (by omega)
          rw [nI_add]
          simp only [ix_nI (show (jL (σ 0) j).2.2.2.1 c + g1 < 2 ^ 31 by omega), show vp_in (nI ((jL (σ 0) j).2.2.2.1 c + g1)) 32 from vin (by omega) (by omega), true_and]
          rw [l15 _ (by omega)]
          rw [ix_nI (by omega)] at hO
          exact hO.no x1 f1
        · unfold gapN at hO
          rw [if_pos (Or.inr (Or.inr z))] at hO
          exact hO.no x1 f1
end MJOBS
