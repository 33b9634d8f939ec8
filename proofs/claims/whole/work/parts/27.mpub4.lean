/-! the reference's calls: the box, pieces that go back, texts, history -/
section MPUB4
variable {h0 h : Hp} {m : Nat} {σ : Nat → Nat → Int32} {K : Int32 → Hp → Prop} {k : Nat}
theorem s_mb48 (r : Int32) (σ0 : Nat → Nat → Int32) (hK : ∀ h1 σ1, MB h0 m σ1 h1 → (∀ f, 1 ≤ f → σ1 f = σ0 f) → (σ1 0 = fun y => if 182 ≤ y ∧ y < 211 then 0 else σ0 0 y) → K r h1) : ∀ (d i n : Nat) (σ : Nat → Nat → Int32) (h : Hp), i + d = 29 → d < n → MB h0 m σ h → (∀ f, 1 ≤ f → σ f = σ0 f) → (σ 0 = fun y => if 182 ≤ y ∧ y < 182 + i then 0 else σ0 0 y) → V_X7_meltBox_65 K n m r (nI i) h := by
  intro d
  induction d with
  | zero =>
    intro i n σ h h1 h2 x g1 g2
    obtain ⟨n, rfl⟩ : ∃ k, n = k + 1 := ⟨n - 1, by omega⟩
    obtain rfl : i = 29 := by omega
    exact ⟨fun _ => hK h σ x g1 g2, fun z => absurd (by decide) z⟩
  | succ d ih =>
    intro i n σ h h1 h2 x g1 g2
    obtain ⟨n, rfl⟩ : ∃ k, n = k + 1 := ⟨n - 1, by omega⟩
    unfold V_X7_meltBox_65
    rw [c29 (by omega), e182, nI_1]
    refine ⟨fun z => absurd z (by omega), fun _ => ?_⟩
    simp only [x.s, ix_nI (show 182 + i < 2 ^ 31 by omega), show vp_in (nI (182 + i)) 3475 from vin (by omega) (by omega), true_and]
    intro h1 e1
    refine ih (i + 1) n _ h1 (by omega) (by omega) (x.pa 0 rfl e1) (fun f hf => ?_) ?_
    · rw [← g1 f hf]; funext y; exact up_f (by omega)
    · rw [up0, g2]
      funext y
      unfold ur
      by_cases a : y = 182 + i
      · rw [if_pos a, if_pos (by omega)]
      · rw [if_neg a]
        by_cases b : 182 ≤ y ∧ y < 182 + i
        · rw [if_pos (show 182 ≤ y ∧ y < 182 + (i + 1) by omega)]; exact if_pos b
        · rw [if_neg (show ¬ (182 ≤ y ∧ y < 182 + (i + 1)) by omega)]; exact if_neg b
theorem m_meltBox (x : MB h0 m σ h) (hk : k ≤ 5) (hk2 : σ 2 0 = nI k) (hO : OM h0 m σ k K (sp_meltBox (σ 0))) : V_X7_meltBox m h K := by
  unfold V_X7_meltBox
  refine ⟨x.k, s_inBox x ?_⟩
  unfold sp_meltBox at hO
  refine ⟨fun q => ?_, fun q => ?_⟩
  · rw [if_neg (show ¬ boxN (σ 0) = 0 from q)] at hO
    refine ⟨x.k, s_record x hk hk2 (fun h1 σ1 x1 r1 => ⟨x1.k, s_boxMetal x1 ?_⟩)⟩
    have e0 := r1.1 0 (by decide) (by decide)
    rw [e0, show sm 29 (fun s => σ 0 (182 + s) * wd s) = boxM (σ 0) from rfl]
    show _ ∧ _
    simp only [x1.s, LT, true_and]
    intro h2 e2
    have x2 := x1.pa 0 rfl e2
    simp only [x2.s, LT, true_and]
    intro h3 e3
    have x3 := x2.pa 0 rfl e3
    simp only [x3.s, LT, true_and]
    intro h4 e4
    have x4 := x3.pa 0 rfl e4
    rw [up_i (show (2 : Nat) ≠ 5 by decide), e0] at x4
    refine ⟨30, s_mb48 _ _ (fun h5 σ5 x5 g1 g2 => ?_) 29 0 30 _ h4 rfl (by decide) x4 (fun _ _ => rfl) ?_⟩
    · refine hO.did x5 (Act.of r1 (fun f a _ => (g1 f a).trans (by funext y; rw [up_f (by omega), up_f (by omega), up_f (by omega)])) ?_)
      rw [g2, up0, up0, up0, ur_n (show (7 : Nat) ≠ 2 by decide), ur_n (show (7 : Nat) ≠ 5 by decide), e0]
      funext y
      unfold ur
      by_cases a : 182 ≤ y ∧ y < 211
      · rw [if_pos a, if_pos a]
      · rw [if_neg a, if_neg a]
        by_cases a7 : y = 7
        · subst a7; simp; rfl
        · by_cases a2 : y = 2
          · subst a2; simp
          · by_cases a5 : y = 5
            · subst a5; simp
            · simp [a7, a2, a5]
    · funext y
      rw [if_neg (by omega)]
  · rw [if_pos (show boxN (σ 0) = 0 from q)] at hO
    exact hO.no x Idle.rf
theorem m_pieces (x : MB h0 m σ h) {nc : Nat} (hn : σ 0 0 = nI nc) (hn6 : nc ≤ 6) (b s : Int32) (hO : OM h0 m σ k K (sp_pieces (σ 0) b s)) : V_X7_pieces m b s h K := by
  unfold V_X7_pieces V_X7_pieces_20 V_X7_pieces_22 V_X7_pieces_46
  unfold sp_pieces at hO
  simp only [x.s, s_noCase x, s_noSort, true_and]
  rcases badS_of s with hs | ⟨t, ht, rfl, hs, hsi⟩
  · rw [if_pos hs] at hO ⊢
    exact ⟨fun _ => hO.no x Idle.rf, fun q => absurd q ne01⟩
  · rw [if_neg hs] at hO ⊢
    rw [hsi] at hO
    refine ⟨fun q => absurd rfl q, fun _ => ⟨fun q => ⟨fun z => absurd q z, fun _ => ?_⟩, fun q => ?_⟩⟩
    · rw [if_pos q] at hO
      rw [e182]
      simp only [ix_nI (show 182 + t < 2 ^ 31 by omega), show vp_in (nI (182 + t)) 3475 from vin (by omega) (by omega), true_and]
      exact hO.no x Idle.rf
    · rw [if_neg q] at hO
      rcases badC_of hn hn6 b with hb | ⟨c, hc, hc6, rfl, hb, hbi⟩
      · rw [if_pos hb] at hO ⊢
        exact ⟨fun q => absurd q ne01, fun _ => hO.no x Idle.rf⟩
      · rw [if_neg hb] at hO ⊢
        rw [hbi] at hO
        refine ⟨fun _ => ⟨fun _ => (s_has x hc6 ht).mpr (hO.no x Idle.rf), fun z => absurd z q⟩, fun q => absurd rfl q⟩
theorem m_taken (x : MB h0 m σ h) {nc nj : Nat} (hn : σ 0 0 = nI nc) (hn6 : nc ≤ 6) (hj : σ 0 1 = nI nj) (h12 : nj ≤ 12) (a b s : Int32) (hO : OM h0 m σ k K (sp_taken (σ 0) a b s)) : V_X7_taken m a b s h K := by
  unfold V_X7_taken V_X7_taken_23
  unfold sp_taken at hO
  simp only [x.s, s_noCase x, s_noJob x, s_noSort, true_and]
  rcases badJ_of hj h12 a with hb | ⟨j, hj1, hj2, rfl, hb, hbi⟩
  · rw [if_pos (Or.inl hb)] at hO
    rw [if_pos hb]
    exact ⟨fun _ => hO.no x Idle.rf, fun q => absurd q ne01⟩
  · rw [if_neg hb]
    refine ⟨fun q => absurd rfl q, fun _ => ?_⟩
    rcases badC_of hn hn6 b with hc | ⟨c, hc1, hc6, rfl, hc, hci⟩
    · rw [if_pos (Or.inr (Or.inl hc))] at hO
      rw [if_pos hc]
      exact ⟨fun _ => hO.no x Idle.rf, fun q => absurd q ne01⟩
    · rw [if_neg hc]
      refine ⟨fun q => absurd rfl q, fun _ => ?_⟩
      rcases badS_of s with hs | ⟨t, ht, rfl, hs, hsi⟩
      · rw [if_pos (Or.inr (Or.inr hs))] at hO
        rw [if_pos hs]
        exact ⟨fun q => absurd q ne01, fun _ => hO.no x Idle.rf⟩
      · rw [if_neg (fun q => q.elim hb (fun q => q.elim hc hs)), hbi, hci, hsi] at hO
        rw [if_neg hs]
        exact ⟨fun _ => (s_inForme x hj2 hc6 ht).mpr (hO.no x Idle.rf), fun q => absurd rfl q⟩
/-! pieces that go back -/
theorem back_eq (n e v : Int32) : (if (99 - e) ≤ (n - v) then 99 - e else n - v) = if 99 - e ≤ n - v then 99 - e else n - v := rfl
/-- the row while goBack runs: the sorts below S are done, of S the cases below C -/
def Going (ρ : Row) (nc j : Nat) (w : Int32) (S C : Nat) (ρ1 : Row) : Prop :=
  (∀ c s, c < 6 → s < 29 → ρ1 (8 + 29 * c + s) = if c < nc ∧ s < S ∨ s = S ∧ c < C then ρ (8 + 29 * c + s) + back ρ j w c s else ρ (8 + 29 * c + s)) ∧
  (∀ s, s < 29 → ρ1 (182 + s) = if s < S then ρ (182 + s) + sm nc (fun c => tobox ρ j w c s) else if s = S then ρ (182 + s) + sm C (fun c => tobox ρ j w c s) else ρ (182 + s)) ∧
  (∀ c s, c < 6 → s < 29 → fm ρ1 j c s = if c < nc ∧ s < S ∨ s = S ∧ c < C then 0 else fm ρ j c s) ∧
  ∀ x, (x < 8 ∨ (211 ≤ x ∧ (x < 211 + 272 * j + 67 ∨ 211 + 272 * j + 241 ≤ x))) → ρ1 x = ρ x
theorem Going.step {ρ ρ1 : Row} {nc j S C : Nat} {w : Int32} (g : Going ρ nc j w S C ρ1) (hC : C < nc) (h6 : nc ≤ 6) (hS : S < 29) (hj : j < 12) :
    Going ρ nc j w S (C + 1) (ur (ur (ur ρ1 (8 + 29 * C + S) (ρ1 (8 + 29 * C + S) + back ρ j w C S)) (182 + S) (ρ1 (182 + S) + tobox ρ j w C S)) (211 + 272 * j + (67 + 29 * C + S)) 0) := by
  obtain ⟨g1, g2, g3, g4⟩ := g
  refine ⟨fun c s hc hs => ?_, fun s hs => ?_, fun c s hc hs => ?_, fun x hx => ?_⟩
  · rw [ur_n (by omega), ur_n (by omega)]
    by_cases e : c = C ∧ s = S
    · obtain ⟨rfl, rfl⟩ := e
      rw [ur_s, g1 c s hc hs, if_neg (by omega), if_pos (by omega)]
    · rw [ur_n (by omega), g1 c s hc hs]
      by_cases e2 : c < nc ∧ s < S ∨ s = S ∧ c < C
      · rw [if_pos e2, if_pos (by omega)]
      · rw [if_neg e2, if_neg (by omega)]
  · rw [ur_n (by omega)]
    by_cases e : s = S
    · subst e
      rw [ur_s, g2 s hs, if_neg (by omega), if_pos rfl, if_neg (by omega), if_pos rfl, smS, Int32.add_assoc]
    · rw [ur_n (by omega), ur_n (by omega), g2 s hs, if_neg e, if_neg e]
  · unfold fm
    by_cases e : c = C ∧ s = S
    · obtain ⟨rfl, rfl⟩ := e
      rw [ur_s, if_pos (by omega)]
    · rw [ur_n (by omega), ur_n (by omega), ur_n (by omega)]
      have := g3 c s hc hs
      unfold fm at this
      rw [this]
      by_cases e2 : c < nc ∧ s < S ∨ s = S ∧ c < C
      · rw [if_pos e2, if_pos (by omega)]
      · rw [if_neg e2, if_neg (by omega)]
  · rw [ur_n (by omega), ur_n (by omega), ur_n (by omega)]
    exact g4 x hx
theorem Going.next {ρ ρ1 : Row} {nc j S : Nat} {w : Int32} (g : Going ρ nc j w S nc ρ1) : Going ρ nc j w (S + 1) 0 ρ1 := by
  obtain ⟨g1, g2, g3, g4⟩ := g
  refine ⟨fun c s hc hs => ?_, fun s hs => ?_, fun c s hc hs => ?_, g4⟩
  · rw [g1 c s hc hs]
    by_cases e2 : c < nc ∧ s < S ∨ s = S ∧ c < nc
    · rw [if_pos e2, if_pos (by omega)]
    · rw [if_neg e2, if_neg (by omega)]
  · rw [g2 s hs]
    by_cases e : s < S
    · rw [if_pos e, if_pos (by omega)]
    · rw [if_neg e]
      by_cases e1 : s = S
      · subst e1; rw [if_pos rfl, if_pos (by omega)]
      · rw [if_neg e1, if_neg (by omega)]
        by_cases e2 : s = S + 1
        · rw [if_pos e2, sm0, Int32.add_zero]
        · rw [if_neg e2]
  · rw [g3 c s hc hs]
    by_cases e2 : c < nc ∧ s < S ∨ s = S ∧ c < nc
    · rw [if_pos e2, if_pos (by omega)]
    · rw [if_neg e2, if_neg (by omega)]
theorem s_gb15 {j nc S : Nat} (hj : j < 12) (h6 : nc ≤ 6) (hS : S < 29) (w : Int32) (A : Int32) (ρ : Row) (σ0 : Nat → Nat → Int32) (hn : ρ 0 = nI nc) {C5 : Nat → Int32 → Int32 → Int32 → Int32 → Hp → Prop}
    (hC : ∀ h1 σ1, MB h0 m σ1 h1 → (∀ f, 1 ≤ f → σ1 f = σ0 f) → Going ρ nc j w S nc (σ1 0) → C5 m (nI j) w (A + sm nc (fun c => tobox ρ j w c S)) (nI (S + 1)) h1) :
    ∀ (d c n : Nat) (σ : Nat → Nat → Int32) (h : Hp), c + d = nc → d < n → MB h0 m σ h → (∀ f, 1 ≤ f → σ f = σ0 f) → Going ρ nc j w S c (σ 0) → V_X7_goBack_15 K C5 n m (nI j) w (A + sm c (fun c => tobox ρ j w c S)) (nI S) (nI c) h := by
  intro d
  induction d with
  | zero =>
    intro i n σ h h1 h2 x f1 g
    obtain ⟨n, rfl⟩ : ∃ k, n = k + 1 := ⟨n - 1, by omega⟩
    obtain rfl : i = nc := by omega
    unfold V_X7_goBack_15
    have hn' : σ 0 0 = nI i := by rw [g.2.2.2 0 (by omega)]; exact hn
    simp only [x.s, LT, true_and, hn', nI_1]
    rw [nle (by omega) (by omega)]
    exact ⟨fun _ => hC h σ x f1 g, fun q => absurd (Nat.le_refl _) q⟩
  | succ d ih =>
    intro i n σ h h1 h2 x f1 g
    obtain ⟨n, rfl⟩ : ∃ k, n = k + 1 := ⟨n - 1, by omega⟩
    unfold V_X7_goBack_15
    have hn' : σ 0 0 = nI nc := by rw [g.2.2.2 0 (by omega)]; exact hn
    simp only [x.s, LT, true_and, hn']
    rw [nle (by omega) (by omega)]
    refine ⟨fun q => absurd q (by omega), fun _ => ?_⟩
    rw [s_inForme x hj (show i < 6 by omega) hS]
    have ef : σ 0 (211 + 272 * j + (67 + 29 * i + S)) = fm ρ j i S := by
      have := g.2.2.1 i S (by omega) hS
      rw [if_neg (by omega)] at this
      exact this
    have ec : σ 0 (8 + 29 * i + S) = ρ (8 + 29 * i + S) := by
      rw [g.1 i S (by omega) hS, if_neg (by omega)]
    rw [ef]
    have go : ∀ v : Int32, v = (if w = 0 then 0 else fm ρ j i S / w) → V_X7_goBack_51 K C5 (V_X7_goBack_15 K C5 n) m (nI j) w (A + sm i (fun c => tobox ρ j w c S)) (nI S) (nI i) (fm ρ j i S) (fm ρ j i S) v h := by
      intro v hv
      unfold V_X7_goBack_51
      refine ⟨x.k, ?_⟩
      rw [s_has x (show i < 6 by omega) hS, ec, s_least]
      have eb : (if 99 - ρ (8 + 29 * i + S) ≤ fm ρ j i S - v then 99 - ρ (8 + 29 * i + S) else fm ρ j i S - v) = back ρ j w i S := by rw [hv]; rfl
      rw [eb]
      rw [e8, e182]
      simp only [x.s, ix_nI (show 8 + 29 * i + S < 2 ^ 31 by omega), ix_nI (show 182 + S < 2 ^ 31 by omega), show vp_in (nI (8 + 29 * i + S)) 3475 from vin (by omega) (by omega), show vp_in (nI (182 + S)) 3475 from vin (by omega) (by omega), true_and]
      intro h2 e2
      have x2 := x.pa 0 rfl e2
      simp only [x2.s, show vp_in (nI (182 + S)) 3475 from vin (by omega) (by omega), true_and]
      intro h3 e3
      have x3 := x2.pa 0 rfl e3
      refine ⟨x3.k, ?_⟩
      rw [e67]
      refine s_put x3 hj (by omega) _ (fun h4 x4 => ?_)
      have := ih (i + 1) n _ h4 (by omega) (by omega) x4 (fun f hf => ?_) ?_
      · rw [smS, ← Int32.add_assoc] at this
        rw [nI_1]
        exact this
      · rw [← f1 f hf]; funext y; rw [up_f (by omega), up_f (by omega), up_f (by omega)]
      · rw [up0, up0, up0, ur_n (show 182 + S ≠ 8 + 29 * i + S by omega)]
        exact g.step (by omega) h6 hS hj
    refine ⟨fun q => ⟨q, go _ (by rw [if_neg q])⟩, fun q => go _ (by rw [if_pos q])⟩
theorem s_gb5 {j nc : Nat} (hj : j < 12) (h6 : nc ≤ 6) (w : Int32) (ρ : Row) (σ0 : Nat → Nat → Int32) (hn : ρ 0 = nI nc)
    (hK : ∀ h1 σ1, MB h0 m σ1 h1 → (∀ f, 1 ≤ f → σ1 f = σ0 f) → Going ρ nc j w 29 0 (σ1 0) → K (goneN ρ nc j w) h1) :
    ∀ (d s n : Nat) (σ : Nat → Nat → Int32) (h : Hp), s + d = 29 → d < n → MB h0 m σ h → (∀ f, 1 ≤ f → σ f = σ0 f) → Going ρ nc j w s 0 (σ 0) → V_X7_goBack_5 K n m (nI j) w (sm s (fun s => sm nc (fun c => tobox ρ j w c s))) (nI s) h := by
  intro d
  induction d with
  | zero =>
    intro i n σ h h1 h2 x f1 g
    obtain ⟨n, rfl⟩ : ∃ k, n = k + 1 := ⟨n - 1, by omega⟩
    obtain rfl : i = 29 := by omega
    exact ⟨fun _ => hK h σ x f1 g, fun z => absurd (by decide) z⟩
  | succ d ih =>
    intro i n σ h h1 h2 x f1 g
    obtain ⟨n, rfl⟩ : ∃ k, n = k + 1 := ⟨n - 1, by omega⟩
    unfold V_X7_goBack_5
    rw [c29 (by omega)]
    refine ⟨fun q => absurd q (by omega), fun _ => ⟨nc + 1, ?_⟩⟩
    have := s_gb15 (K := K) (m := m) (h0 := h0) hj h6 (show i < 29 by omega) w (sm i (fun s => sm nc (fun c => tobox ρ j w c s))) ρ σ0 hn (C5 := V_X7_goBack_5 K n)
      (fun h1 σ1 x1 f1 g1 => ih (i + 1) n σ1 h1 (by omega) (by omega) x1 f1 g1.next) nc 0 (nc + 1) σ h (by omega) (by omega) x f1 g
    rw [sm0, Int32.add_zero] at this
    exact this
theorem s_goBack (x : MB h0 m σ h) {j nc : Nat} (hj : j < 12) (h6 : nc ≤ 6) (hn : σ 0 0 = nI nc) (w : Int32) (hK : ∀ h1 σ1, MB h0 m σ1 h1 → (∀ f, 1 ≤ f → σ1 f = σ f) → Gone (σ 0) nc j w (σ1 0) → K (goneN (σ 0) nc j w) h1) : V_X7_goBack m (nI j) w h K := by
  refine ⟨30, s_gb5 hj h6 w (σ 0) σ hn (fun h1 σ1 x1 f1 g => hK h1 σ1 x1 f1 ?_) 29 0 30 σ h rfl (by decide) x (fun _ _ => rfl) ?_⟩
  · obtain ⟨g1, g2, g3, g4⟩ := g
    refine ⟨fun c s hc hs => ?_, fun s hs => ?_, fun c s hc hs => ?_, g4⟩
    · rw [g1 c s hc hs]
      by_cases e : c < nc
      · rw [if_pos (by omega), if_pos e]
      · rw [if_neg (by omega), if_neg e]
    · rw [g2 s hs, if_pos hs]
    · rw [g3 c s hc hs]
      by_cases e : c < nc
      · rw [if_pos (by omega), if_pos e]
      · rw [if_neg (by omega), if_neg e]
  · refine ⟨fun c s hc hs => ?_, fun s hs => ?_, fun c s hc hs => ?_, fun x _ => rfl⟩
    · rw [if_neg (by omega)]
    · rw [if_neg (by omega)]
      by_cases e : s = 0
      · rw [if_pos e, sm0, Int32.add_zero]
      · rw [if_neg e]
    · rw [if_neg (by omega)]
theorem m_distribute (x : MB h0 m σ h) (hk : k ≤ 5) (hk2 : σ 2 0 = nI k) {nc nj : Nat} (hc : σ 0 0 = nI nc) (h6 : nc ≤ 6) (hn : σ 0 1 = nI nj) (hn6 : nj ≤ 12) (a : Int32) (hO : OM h0 m σ k K (sp_distribute (σ 0) nc a)) : V_X7_distribute m a h K := by
  unfold V_X7_distribute
  unfold sp_distribute at hO
  simp only [x.s, s_noJob x, true_and]
  rcases badJ_of hn hn6 a with hb | ⟨j, hj, hj12, rfl, hb, hbi⟩
  · rw [if_pos hb] at hO ⊢
    exact ⟨fun q => absurd q ne01, fun _ => hO.no x Idle.rf⟩
  · rw [if_neg hb] at hO ⊢
    rw [hbi] at hO
    refine ⟨fun _ => ?_, fun q => absurd rfl q⟩
    rw [s_oj x hj12 3 (by decide) (v := 3) rfl]
    refine ⟨fun q => ?_, fun q => ?_⟩
    · rw [if_pos (show jb (σ 0) j 3 = 2 from q)] at hO
      refine ⟨x.k, s_record x hk hk2 (fun h1 σ1 x1 r1 => ⟨x1.k, ?_⟩)⟩
      have e0 := r1.1 0 (by decide) (by decide)
      have := s_put x1 hj12 (w := 3) (by decide) 3 (K := fun h4 => hK h4 m = 8 ∧ V_X7_goBack m (nI j) 8 h4 fun r3 h5 => K r3 h5) (fun h2 x2 => ⟨x2.k, ?_⟩)
      · exact this
      · have e1 : up σ1 0 (211 + 272 * j + 3) 3 0 = ur (σ 0) (211 + 272 * j + 3) 3 := by rw [up0, e0]
        refine s_goBack x2 hj12 h6 (by rw [e1, ur_n (by omega)]; exact hc) 8 (fun h3 σ3 x3 f3 g3 => ?_)
        rw [e1] at g3 ⊢
        have : goneN (ur (σ 0) (211 + 272 * j + 3) 3) nc j 8 = goneN (σ 0) nc j 8 := by
          unfold goneN tobox back fm
          apply sm_congr; intro s hs
          apply sm_congr; intro c hc
          rw [ur_n (by omega), ur_n (by omega)]
        rw [this]
        exact hO.did x3 (Act.of r1 (fun f a _ => (f3 f a).trans (by funext y; exact up_f (by omega))) g3)
    · rw [if_neg (show ¬ jb (σ 0) j 3 = 2 from q)] at hO
      exact hO.no x Idle.rf
theorem m_cancel (x : MB h0 m σ h) (hk : k ≤ 5) (hk2 : σ 2 0 = nI k) {nc nj : Nat} (hc : σ 0 0 = nI nc) (h6 : nc ≤ 6) (hn : σ 0 1 = nI nj) (hn6 : nj ≤ 12) (a : Int32) (hO : OM h0 m σ k K (sp_cancel (σ 0) nc a)) : V_X7_cancel m a h K := by
  unfold V_X7_cancel
  unfold sp_cancel at hO
  simp only [x.s, s_noJob x, true_and]
  rcases badJ_of hn hn6 a with hb | ⟨j, hj, hj12, rfl, hb, hbi⟩
  · rw [if_pos hb] at hO ⊢
    exact ⟨fun q => absurd q ne01, fun _ => hO.no x Idle.rf⟩
  · rw [if_neg hb] at hO ⊢
    rw [hbi] at hO
    refine ⟨fun _ => ?_, fun q => absurd rfl q⟩
    rw [s_oj x hj12 3 (by decide) (v := 3) rfl, s_in]
    by_cases q : σ 0 (211 + 272 * j + 3) < 0 ∨ 1 < σ 0 (211 + 272 * j + 3)
    · rw [if_pos (show jb (σ 0) j 3 < 0 ∨ 1 < jb (σ 0) j 3 from q)] at hO
      rw [if_pos q]
      exact ⟨fun q => absurd rfl q, fun _ => hO.no x Idle.rf⟩
    · rw [if_neg (show ¬ (jb (σ 0) j 3 < 0 ∨ 1 < jb (σ 0) j 3) from q)] at hO
      rw [if_neg q]
      refine ⟨fun _ => ⟨x.k, s_record x hk hk2 (fun h1 σ1 x1 r1 => ⟨x1.k, ?_⟩)⟩, fun q => absurd q ne01⟩
      have e0 := r1.1 0 (by decide) (by decide)
      refine s_inFormeOf x1 hj12 (by rw [e0]; exact hc) h6 0 ?_
      rw [e0, show sm nc (fun c => sm 29 (fterm (σ 0) j 0 c)) = formeN (σ 0) nc j from rfl]
      refine ⟨x1.k, ?_⟩
      have := s_put x1 hj12 (w := 3) (by decide) 4 (K := fun h4 => hK h4 m = 8 ∧ V_X7_goBack m (nI j) 0 h4 fun r3 h5 => K (formeN (σ 0) nc j - r3) h5) (fun h2 x2 => ⟨x2.k, ?_⟩)
      · exact this
      · have e1 : up σ1 0 (211 + 272 * j + 3) 4 0 = ur (σ 0) (211 + 272 * j + 3) 4 := by rw [up0, e0]
        refine s_goBack (K := fun r3 h5 => K (formeN (σ 0) nc j - r3) h5) x2 hj12 h6 (by rw [e1, ur_n (by omega)]; exact hc) 0 (fun h3 σ3 x3 f3 g3 => ?_)
        rw [e1] at g3 ⊢
        have : goneN (ur (σ 0) (211 + 272 * j + 3) 4) nc j 0 = goneN (σ 0) nc j 0 := by
          unfold goneN tobox back fm
          apply sm_congr; intro s hs
          apply sm_congr; intro c hc
          rw [ur_n (by omega), ur_n (by omega)]
        rw [this]
        exact hO.did x3 (Act.of r1 (fun f a _ => (f3 f a).trans (by funext y; exact up_f (by omega))) g3)
end MPUB4
