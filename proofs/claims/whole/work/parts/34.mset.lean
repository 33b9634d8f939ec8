/-! the reference's calls: what is missing is cast, a job is set -/
section MSET
variable {h0 h : Hp} {m : Nat} {σ : Nat → Nat → Int32} {K : Int32 → Hp → Prop} {k : Nat}
/-- what stays of the needs and the things there over an act that keeps the scratch rows -/
theorem lk_of {ρ : Row} {nc j : Nat} {σ : Nat → Nat → Int32} (hN : NRel ρ nc j (jlen ρ j) σ) {s : Nat} (hs : s < 29) : lk σ s = lkF ρ nc j s := by
  unfold lk lkF
  rw [(hN.1 s hs).1, (hN.1 s hs).2]
theorem s_cm154 {c : Nat} (hc : c < 6) (r : Int32) (w : Nat → Int32) (ρ : Row) (σ0 : Nat → Nat → Int32) (hw : ∀ s, s < 29 → lk σ0 s = w s) (hK : ∀ h1 σ1, MB h0 m σ1 h1 → (∀ f, 1 ≤ f → σ1 f = σ0 f) → σ1 0 = castP ρ c w 29 → K r h1) :
    ∀ (d i q : Nat) (σ : Nat → Nat → Int32) (h : Hp), i + d = 29 → d < q → MB h0 m σ h → (∀ f, 1 ≤ f → σ f = σ0 f) → σ 0 = castP ρ c w i → V_X7_castMissing_154 K q m r (nI c) (nI i) h := by
  intro d
  induction d with
  | zero =>
    intro i q σ h h1 h2 x g1 g2
    obtain ⟨q, rfl⟩ : ∃ k, q = k + 1 := ⟨q - 1, by omega⟩
    obtain rfl : i = 29 := by omega
    exact ⟨fun _ => hK h σ x g1 g2, fun z => absurd (by decide) z⟩
  | succ d ih =>
    intro i q σ h h1 h2 x g1 g2
    obtain ⟨q, rfl⟩ : ∃ k, q = k + 1 := ⟨q - 1, by omega⟩
    unfold V_X7_castMissing_154
    rw [c29 (by omega), nI_1]
    refine ⟨fun z => absurd z (by omega), fun _ => ⟨x.k, (s_lacks x (by omega)).mpr ⟨x.k, ?_⟩⟩⟩
    have el : lk σ i = w i := by rw [← hw i (by omega)]; unfold lk; rw [g1 17 (by decide), g1 18 (by decide)]
    rw [el]
    refine s_casts x hc (by omega) _ (fun h1 σ1 x1 f1 f2 => ih (i + 1) q σ1 h1 (by omega) (by omega) x1 (fun f hf => (f1 f hf).trans (g1 f hf)) ?_)
    rw [f2, g2, castP_S ρ c _ (by omega)]
theorem s_cm55 (x : MB h0 m σ h) {σs : Nat → Nat → Int32} (hid : Idle σs σ) (hk : k ≤ 5) (hk2 : σ 2 0 = nI k) {c : Nat} (hc : c < 6) (r : Int32) (w : Nat → Int32) (hw : ∀ s, s < 29 → lk σ s = w s) (hw0 : ∀ s, s < 29 → w s ≤ 0 → w s = 0) (h99 : ∀ t, t < 29 → σ 0 (8 + 29 * c + t) ≤ 99) (hO : OM h0 m σs k K (castW (σ 0) c w r)) :
    ∀ (d i q : Nat), i + d = 29 → d < q → V_X7_castMissing_55 K q m r (nI c) (sm i (fun s => w s * wd s)) (b01 (anyF (σ 0) c w i)) (nI i) h := by
  intro d
  induction d with
  | zero =>
    intro i q h1 h2
    obtain ⟨q, rfl⟩ : ∃ k, q = k + 1 := ⟨q - 1, by omega⟩
    obtain rfl : i = 29 := by omega
    unfold V_X7_castMissing_55
    unfold castW at hO
    rw [show anyFull (σ 0) c w = anyF (σ 0) c w 29 from rfl] at hO
    refine ⟨fun _ => ?_, fun z => absurd (by decide) z⟩
    by_cases e : anyF (σ 0) c w 29 = true
    · rw [if_pos e] at hO
      unfold b01
      rw [if_pos e]
      exact ⟨fun z => absurd z ne01, fun _ => hO.no x hid⟩
    · rw [if_neg e] at hO
      unfold b01
      rw [if_neg e]
      simp only [x.s, LT, true_and]
      refine ⟨fun _ => ⟨fun z => ?_, fun z => ?_⟩, fun z => absurd trivial z⟩
      · rw [if_pos z] at hO
        refine s_record x hk hk2 (fun h1 σ1 x1 r1 => ⟨30, ?_⟩)
        have hlk : ∀ s, s < 29 → lk σ1 s = w s := fun s hs => by rw [← hw s hs]; unfold lk; rw [r1.1 17 (by decide) (by decide), r1.1 18 (by decide) (by decide)]
        refine s_cm154 hc r w (σ1 0) σ1 hlk (fun h2 σ2 x2 g1 g2 => ?_) 29 0 30 σ1 h1 rfl (by decide) x1 (fun _ _ => rfl) (castP_0 _ _ _).symm
        have rs : Rec σs k (fun f => if f ≤ 6 then σ1 f else σs f) := by
          refine ⟨fun f a b => ?_, ?_, fun i hi y hy => ?_⟩
          · show (if f ≤ 6 then σ1 f else σs f) = σs f
            by_cases b6 : f ≤ 6
            · rw [if_pos b6, r1.1 f a b]; exact hid f b6
            · rw [if_neg b6]
          · show (if 2 ≤ 6 then σ1 2 else σs 2) 0 = _
            rw [if_pos (by decide)]; exact r1.2.1
          · show (if 1 ≤ 6 then σ1 1 else σs 1) _ = (if _ then σs 0 y else σs 1 _)
            rw [if_pos (by decide), r1.2.2 i hi y hy, hid 0 (by decide), hid 1 (by decide)]
        refine hO.did x2 (Act.of rs (fun f a b => ?_) ?_)
        · show σ2 f = (if f ≤ 6 then σ1 f else σs f)
          rw [if_pos b]; exact g1 f a
        · rw [g2, r1.1 0 (by decide) (by decide)]; rfl
      · rw [if_neg z] at hO
        exact hO.no x hid
  | succ d ih =>
    intro i q h1 h2
    obtain ⟨q, rfl⟩ : ∃ k, q = k + 1 := ⟨q - 1, by omega⟩
    unfold V_X7_castMissing_55 V_X7_castMissing_95 V_X7_castMissing_99 V_X7_castMissing_100
    rw [c29 (by omega), nI_1]
    simp only [s_width (show i < 29 by omega), s_has x hc (show i < 29 by omega), s_lacks x (show i < 29 by omega), hw i (by omega), x.s, true_and]
    have go := ih (i + 1) q (by omega) (by omega)
    rw [smS, anyF_S] at go
    refine ⟨fun z => absurd z (by omega), fun _ => ?_⟩
    cases e : anyF (σ 0) c w i with
    | true =>
      rw [e] at go
      exact ⟨fun _ => go, fun q => absurd q ne01⟩
    | false =>
      rw [e, Bool.false_or] at go
      refine ⟨fun q => absurd rfl q, fun _ => ⟨fun q => ?_, fun _ => ⟨fun q => ?_, fun q => ?_⟩⟩⟩
      · have h0' := hw0 i (by omega) q
        rw [show decide (99 < σ 0 (8 + 29 * c + i) + w i) = false from decide_eq_false (by rw [h0', Int32.add_zero]; exact Int32.not_lt.mpr (h99 i (by omega)))] at go
        exact go
      · rw [show decide (99 < σ 0 (8 + 29 * c + i) + w i) = false from decide_eq_false (Int32.not_lt.mpr q)] at go
        exact go
      · rw [show decide (99 < σ 0 (8 + 29 * c + i) + w i) = true from decide_eq_true (Int32.not_le.mp q)] at go
        exact go
theorem m_castMissing (x : MB h0 m σ h) (hk : k ≤ 5) (hk2 : σ 2 0 = nI k) {nc nj : Nat} (hn : σ 0 0 = nI nc) (hn6 : nc ≤ 6) (hj : σ 0 1 = nI nj) (h12 : nj ≤ 12) (hJ : ∀ j, j < nj → JT (σ 0) j) (hH : ∀ j, j < nj → ∃ c, c < 6 ∧ jb (σ 0) j 0 = nI c)
    (hlk : ∀ j s, j < nj → s < 29 → lkF (σ 0) nc j s ≤ 0 → lkF (σ 0) nc j s = 0) (h99 : ∀ c t, c < 6 → t < 29 → σ 0 (8 + 29 * c + t) ≤ 99) (a : Int32) (hO : OM h0 m σ k K (sp_castMissing (σ 0) nc a)) : V_X7_castMissing m a h K := by
  unfold V_X7_castMissing
  unfold sp_castMissing at hO
  simp only [x.s, s_noJob x, true_and]
  rcases badJ_of hj h12 a with hb | ⟨j, hj1, hj2, rfl, hb, hbi⟩
  · rw [if_pos hb] at hO ⊢
    exact ⟨fun q => absurd q ne01, fun _ => hO.no x Idle.rf⟩
  · rw [if_neg hb] at hO ⊢
    rw [hbi, show jb (σ 0) j 3 = σ 0 (211 + 272 * j + 3) from rfl] at hO
    refine ⟨fun _ => ?_, fun q => absurd rfl q⟩
    rw [s_oj x hj2 3 (by decide) (v := 3) rfl]
    refine ⟨fun q => ?_, fun q => ?_⟩
    · rw [if_pos q] at hO
      refine ⟨x.k, s_layNeeds x hj2 hn hn6 (hJ j hj1).1 (hJ j hj1).2 (fun h1 σ1 x1 f1 f8 hL hN => ⟨x1.k, s_allLacks x1 ?_⟩)⟩
      rw [sm_congr (fun s hs => lk_of hN hs), show sm 29 (fun s => lkF (σ 0) nc j s) = lkN (σ 0) nc j from rfl]
      have e0 := f1 0 (by decide)
      refine ⟨fun z => ?_, fun z => ?_⟩
      · rw [if_neg z] at hO
        obtain ⟨c, hc6, hc⟩ := hH j hj1
        refine ⟨x1.k, (s_oj x1 hj2 0 (by decide) (v := 0) rfl).mpr ?_⟩
        rw [e0, show σ 0 (211 + 272 * j + 0) = nI c from hc]
        rw [hc, ix_nI (by omega)] at hO
        exact ⟨30, s_cm55 x1 f1 hk (by rw [f1 2 (by decide)]; exact hk2) hc6 _ (lkF (σ 0) nc j) (fun s hs => lk_of hN hs) (fun s hs => hlk j s hj1 hs) (fun t ht => by rw [e0]; exact h99 c t hc6 ht) (by rw [e0]; exact hO) 29 0 30 rfl (by decide)⟩
      · rw [if_pos z] at hO
        exact hO.no x1 f1
    · rw [if_neg q] at hO
      exact hO.no x Idle.rf
/-! a job is set: how many of a sort come from each case -/
def tkh (ρ : Row) (hm s : Nat) (nd : Int32) : Int32 := lst nd (ρ (8 + 29 * hm + s))
/-- what is left of the need behind the own case and the cases below k -/
def lf (ρ : Row) (hm s : Nat) (nd : Int32) : Nat → Int32
  | 0 => nd - tkh ρ hm s nd
  | k + 1 => lf ρ hm s nd k - (if k = hm then 0 else lst (lf ρ hm s nd k) (ρ (8 + 29 * k + s)))
def tk (ρ : Row) (hm s : Nat) (nd : Int32) (c : Nat) : Int32 := if c = hm then tkh ρ hm s nd else lst (lf ρ hm s nd c) (ρ (8 + 29 * c + s))
def brw (ρ : Row) (hm s : Nat) (nd : Int32) (n : Nat) : Int32 := sm n (fun k => if k = hm then 0 else lst (lf ρ hm s nd k) (ρ (8 + 29 * k + s)))
/-- the row while the sort S is taken: the own case is done, and the cases below C -/
def Tak (ρ : Row) (j hm S : Nat) (nd : Int32) (C : Nat) (ρ1 : Row) : Prop :=
  (∀ c, c < 6 → ρ1 (8 + 29 * c + S) = if c = hm ∨ c < C then ρ (8 + 29 * c + S) - tk ρ hm S nd c else ρ (8 + 29 * c + S)) ∧
  (∀ c, c < 6 → fm ρ1 j c S = if c = hm ∨ c < C then fm ρ j c S + tk ρ hm S nd c else fm ρ j c S) ∧
  ∀ x, (∀ c, c < 6 → x ≠ 8 + 29 * c + S ∧ x ≠ 211 + 272 * j + (67 + 29 * c + S)) → ρ1 x = ρ x
theorem Tak.step {ρ ρ1 : Row} {j hm S C : Nat} {nd : Int32} (g : Tak ρ j hm S nd C ρ1) (hC : C < 6) (hS : S < 29) (hj : j < 12) (hm6 : hm < 6) :
    Tak ρ j hm S nd (C + 1) (ur (ur ρ1 (8 + 29 * C + S) (ρ1 (8 + 29 * C + S) - (if C = hm then 0 else lst (lf ρ hm S nd C) (ρ (8 + 29 * C + S))))) (211 + 272 * j + (67 + 29 * C + S)) (fm ρ1 j C S + (if C = hm then 0 else lst (lf ρ hm S nd C) (ρ (8 + 29 * C + S))))) := by
  obtain ⟨g1, g2, g3⟩ := g
  refine ⟨fun c hc => ?_, fun c hc => ?_, fun x hx => ?_⟩
  · rw [ur_n (by omega)]
    by_cases e : c = C
    · subst e
      rw [ur_s, g1 c hc]
      by_cases e2 : c = hm
      · rw [if_pos e2, Int32.sub_zero, if_pos (Or.inl e2), if_pos (Or.inl e2)]
      · rw [if_neg e2, if_neg (by omega), if_pos (Or.inr (by omega))]
        unfold tk; rw [if_neg e2]
    · rw [ur_n (by omega), g1 c hc]
      by_cases e2 : c = hm ∨ c < C
      · rw [if_pos e2, if_pos (by omega)]
      · rw [if_neg e2, if_neg (by omega)]
  · unfold fm
    by_cases e : c = C
    · subst e
      have g2' := g2 c hc
      unfold fm at g2'
      rw [ur_s, g2']
      by_cases e2 : c = hm
      · rw [if_pos e2, Int32.add_zero, if_pos (Or.inl e2), if_pos (Or.inl e2)]
      · rw [if_neg e2, if_neg (by omega), if_pos (Or.inr (by omega))]
        unfold tk; rw [if_neg e2]
    · rw [ur_n (by omega), ur_n (by omega)]
      have := g2 c hc
      unfold fm at this
      rw [this]
      by_cases e2 : c = hm ∨ c < C
      · rw [if_pos e2, if_pos (by omega)]
      · rw [if_neg e2, if_neg (by omega)]
  · rw [ur_n (hx C hC).2, ur_n (hx C hC).1]
    exact g3 x hx
theorem Tak.own {ρ : Row} {j hm S : Nat} {nd : Int32} (hS : S < 29) (hj : j < 12) (hm6 : hm < 6) :
    Tak ρ j hm S nd 0 (ur (ur ρ (8 + 29 * hm + S) (ρ (8 + 29 * hm + S) - tkh ρ hm S nd)) (211 + 272 * j + (67 + 29 * hm + S)) (fm ρ j hm S + tkh ρ hm S nd)) := by
  refine ⟨fun c hc => ?_, fun c hc => ?_, fun x hx => ?_⟩
  · rw [ur_n (by omega)]
    by_cases e : c = hm
    · subst e
      rw [ur_s, if_pos (Or.inl rfl)]
      unfold tk; rw [if_pos rfl]
    · rw [ur_n (by omega), if_neg (by omega)]
  · unfold fm
    by_cases e : c = hm
    · subst e
      rw [ur_s, if_pos (Or.inl rfl)]
      unfold tk; rw [if_pos rfl]
    · rw [ur_n (by omega), ur_n (by omega), if_neg (by omega)]
  · rw [ur_n (hx hm hm6).2, ur_n (hx hm hm6).1]
theorem s_tk67 (x : MB h0 m σ h) {j c S : Nat} (hj : j < 12) (hc : c < 6) (hS : S < 29) (a3 a4 a5 a6 v : Int32) {C21 : Nat → Int32 → Int32 → Int32 → Int32 → Int32 → Int32 → Hp → Prop}
    (hC : ∀ h1, MB h0 m (up (up σ 0 (8 + 29 * c + S) (σ 0 (8 + 29 * c + S) - v)) 0 (211 + 272 * j + (67 + 29 * c + S)) (fm (σ 0) j c S + v)) h1 → C21 m (nI j) (nI S) a3 (a4 - v) (a5 + (if nI c = a3 then 0 else v)) (a6 + 1) h1) : V_X7_takes_67 K C21 m (nI j) (nI S) a3 a4 a5 a6 (nI c) v h := by
  unfold V_X7_takes_67 V_X7_takes_136
  simp only [x.s, e8, e67, ix_nI (show 8 + 29 * c + S < 2 ^ 31 by omega), show vp_in (nI (8 + 29 * c + S)) 3475 from vin (by omega) (by omega), true_and]
  intro h1 e1
  have x1 := x.pa 0 rfl e1
  refine ⟨x1.k, (s_inForme x1 hj hc hS).mpr ⟨x1.k, s_put x1 hj (by omega) _ (fun h2 x2 => ?_)⟩⟩
  rw [up_i (show 211 + 272 * j + (67 + 29 * c + S) ≠ 8 + 29 * c + S by omega)] at x2
  have := hC h2 x2
  refine ⟨fun q => ?_, fun q => ?_⟩
  · rw [if_neg q] at this; exact this
  · rw [if_pos q] at this; exact this
theorem s_tk21 {j nc hm S : Nat} (hj : j < 12) (h6 : nc ≤ 6) (hm6 : hm < 6) (hS : S < 29) (nd : Int32) (ρ : Row) (σ0 : Nat → Nat → Int32) (hn : ρ 0 = nI nc)
    (hK : ∀ h1 σ1, MB h0 m σ1 h1 → (∀ f, 1 ≤ f → σ1 f = σ0 f) → Tak ρ j hm S nd nc (σ1 0) → K (brw ρ hm S nd nc) h1) :
    ∀ (d c n : Nat) (σ : Nat → Nat → Int32) (h : Hp), c + d = nc → d < n → MB h0 m σ h → (∀ f, 1 ≤ f → σ f = σ0 f) → Tak ρ j hm S nd c (σ 0) → V_X7_takes_21 K n m (nI j) (nI S) (nI hm) (lf ρ hm S nd c) (brw ρ hm S nd c) (nI c) h := by
  intro d
  induction d with
  | zero =>
    intro i n σ h h1 h2 x f1 g
    obtain ⟨n, rfl⟩ : ∃ k, n = k + 1 := ⟨n - 1, by omega⟩
    obtain rfl : i = nc := by omega
    unfold V_X7_takes_21
    have hn' : σ 0 0 = nI i := by rw [g.2.2 0 (fun c hc => by omega)]; exact hn
    simp only [x.s, LT, true_and, hn']
    rw [nle (by omega) (by omega)]
    exact ⟨fun _ => hK h σ x f1 g, fun q => absurd (Nat.le_refl _) q⟩
  | succ d ih =>
    intro i n σ h h1 h2 x f1 g
    obtain ⟨n, rfl⟩ : ∃ k, n = k + 1 := ⟨n - 1, by omega⟩
    unfold V_X7_takes_21
    have hn' : σ 0 0 = nI nc := by rw [g.2.2 0 (fun c hc => by omega)]; exact hn
    simp only [x.s, LT, true_and, hn']
    rw [nle (by omega) (by omega)]
    refine ⟨fun q => absurd q (by omega), fun _ => ⟨fun _ => ?_, fun q => absurd (c0 (by omega)) q⟩⟩
    have fin : ∀ v : Int32, v = (if i = hm then 0 else lst (lf ρ hm S nd i) (ρ (8 + 29 * i + S))) → V_X7_takes_67 K (V_X7_takes_21 K n) m (nI j) (nI S) (nI hm) (lf ρ hm S nd i) (brw ρ hm S nd i) (nI i) (nI i) v h := by
      intro v hv
      refine s_tk67 x hj (by omega) hS _ _ _ _ _ (fun h3 x3 => ?_)
      have := ih (i + 1) n _ h3 (by omega) (by omega) x3 (fun f hf => by rw [← f1 f hf]; funext y; rw [up_f (by omega), up_f (by omega)]) (by
        rw [up0, up0, hv]
        exact g.step (by omega) hS hj hm6)
      rw [nI_1]
      have e1 : lf ρ hm S nd (i + 1) = lf ρ hm S nd i - v := by rw [hv]; rfl
      have e2 : brw ρ hm S nd (i + 1) = brw ρ hm S nd i + (if nI i = nI hm then 0 else v) := by
        unfold brw
        rw [smS, hv]
        congr 1
        by_cases e : i = hm
        · rw [if_pos e, if_pos (by rw [e])]
        · rw [if_neg e, if_neg (fun q => e ((nI_eq (by omega) (by omega)).mp q))]
      rw [e1, e2] at this
      exact this
    unfold V_X7_takes_43
    refine ⟨fun q => ?_, fun q => ?_⟩
    · have e : i ≠ hm := fun q2 => q (by rw [q2])
      refine ⟨x.k, (s_has x (by omega) hS).mpr ((s_least _ _).mpr ?_)⟩
      refine fin _ ?_
      rw [if_neg e, g.1 i (by omega), if_neg (show ¬ (i = hm ∨ i < i) by omega)]
      rfl
    · have e : i = hm := (nI_eq (by omega) (by omega)).mp q
      exact fin 0 (by rw [if_pos e])
theorem s_takes (x : MB h0 m σ h) {j nc hm S : Nat} (hj : j < 12) (hn : σ 0 0 = nI nc) (h6 : nc ≤ 6) (hm6 : hm < 6) (hh : jb (σ 0) j 0 = nI hm) (hS : S < 29) (hK : ∀ h1 σ1, MB h0 m σ1 h1 → (∀ f, 1 ≤ f → σ1 f = σ f) → Tak (σ 0) j hm S (σ 17 S) nc (σ1 0) → K (brw (σ 0) hm S (σ 17 S) nc) h1) : V_X7_takes m (nI j) (nI S) h K := by
  unfold V_X7_takes
  refine ⟨x.k, (s_oj x hj 0 (by decide) (v := 0) rfl).mpr ?_⟩
  rw [show σ 0 (211 + 272 * j + 0) = nI hm from hh]
  simp only [x.s, ix_nI (show S < 2 ^ 31 by omega), show vp_in (nI S) 29 from vin (by omega) (by omega), true_and]
  refine ⟨nc + 2, ?_⟩
  unfold V_X7_takes_21 V_X7_takes_43
  simp only [x.s, LT, true_and, hn]
  have hm1 : ¬ nI nc ≤ (-1 : Int32) := by
    rw [Int32.le_iff_toInt_le, nI_toInt (by omega)]
    have : (-1 : Int32).toInt = -1 := by decide
    omega
  have hne : ¬ (-1 : Int32) = nI hm := by
    intro q
    have := congrArg Int32.toInt q
    rw [nI_toInt (by omega)] at this
    have e : (-1 : Int32).toInt = -1 := by decide
    omega
  refine ⟨fun q => absurd q hm1, fun _ => ⟨fun q => absurd q (by decide), fun _ => ⟨fun _ => ?_, fun q => absurd q hne⟩⟩⟩
  refine (s_has x hm6 hS).mpr ((s_least _ _).mpr ?_)
  refine s_tk67 x hj hm6 hS _ _ _ _ _ (fun h3 x3 => ?_)
  rw [if_pos rfl]
  have := s_tk21 (K := K) (m := m) (h0 := h0) hj h6 hm6 hS (σ 17 S) (σ 0) σ hn hK nc 0 (nc + 1) _ h3 (by omega) (by omega) x3 (fun f hf => by funext y; rw [up_f (by omega), up_f (by omega)]) (by
    rw [up0, up0]
    exact Tak.own hS hj hm6)
  exact this
end MSET
