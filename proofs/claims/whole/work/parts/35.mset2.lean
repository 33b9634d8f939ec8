/-! the reference's calls: a job is set, the whole walk -/
def nS (ρ : Row) (nc j s : Nat) : Int32 := ndF ρ nc j (jlen ρ j) s
def filV (a b c : Int32) : Int32 := ((1000000 * a) + (1000 * b)) + c
def fil (ρ : Row) (nc j g : Nat) : Int32 := filV (f4 (jL ρ j).2.2.2.2 (thr ρ nc j 26) (thr ρ nc j 27) g) (f2 (jL ρ j).2.2.2.2 (thr ρ nc j 26) (thr ρ nc j 27) g) (f1 (jL ρ j).2.2.2.2 (thr ρ nc j 26) (thr ρ nc j 27) g)
def filR (ρ : Row) (j : Nat) (F : Nat → Int32) (g : Nat) : Row := fun x => if 211 + 272 * j + 241 ≤ x ∧ x < 211 + 272 * j + 241 + g then F (x - (211 + 272 * j + 241)) else ρ x
theorem filR_0 (ρ : Row) (j : Nat) (F : Nat → Int32) : filR ρ j F 0 = ρ := by
  funext x
  exact if_neg (by omega)
theorem filR_S (ρ : Row) (j : Nat) (F : Nat → Int32) (g : Nat) : ur (filR ρ j F g) (211 + 272 * j + (241 + g)) (F g) = filR ρ j F (g + 1) := by
  funext x
  show (if x = 211 + 272 * j + (241 + g) then F g else if 211 + 272 * j + 241 ≤ x ∧ x < 211 + 272 * j + 241 + g then F (x - (211 + 272 * j + 241)) else ρ x) = (if 211 + 272 * j + 241 ≤ x ∧ x < 211 + 272 * j + 241 + (g + 1) then F (x - (211 + 272 * j + 241)) else ρ x)
  by_cases e : x = 211 + 272 * j + (241 + g)
  · rw [if_pos e, if_pos (by omega), show x - (211 + 272 * j + 241) = g by omega]
  · rw [if_neg e]
    by_cases e2 : 211 + 272 * j + 241 ≤ x ∧ x < 211 + 272 * j + 241 + g
    · rw [if_pos e2, if_pos (by omega)]
    · rw [if_neg e2, if_neg (by omega)]
/-- the row while a job is set: the sorts below S are taken -/
def SetR (ρ : Row) (nc j hm : Nat) (w : Nat → Int32) (S : Nat) (ρ1 : Row) : Prop :=
  (∀ c s, c < 6 → s < 29 → ρ1 (8 + 29 * c + s) = if s < S ∧ (c = hm ∨ c < nc) then ρ (8 + 29 * c + s) - tk ρ hm s (w s) c else ρ (8 + 29 * c + s)) ∧
  (∀ c s, c < 6 → s < 29 → fm ρ1 j c s = if s < S ∧ (c = hm ∨ c < nc) then fm ρ j c s + tk ρ hm s (w s) c else fm ρ j c s) ∧
  ∀ x, (∀ c s, c < 6 → s < 29 → x ≠ 8 + 29 * c + s ∧ x ≠ 211 + 272 * j + (67 + 29 * c + s)) → ρ1 x = ρ x
theorem lf_same {ρ ρ1 : Row} {hm S : Nat} (hm6 : hm < 6) (e : ∀ c, c < 6 → ρ1 (8 + 29 * c + S) = ρ (8 + 29 * c + S)) (nd : Int32) : ∀ c, c ≤ 6 → lf ρ1 hm S nd c = lf ρ hm S nd c := by
  intro c
  induction c with
  | zero => intro _; show nd - tkh ρ1 hm S nd = nd - tkh ρ hm S nd; unfold tkh; rw [e hm hm6]
  | succ c ih => intro hc; unfold lf; rw [ih (by omega), e c (by omega)]
theorem tk_same {ρ ρ1 : Row} {hm S : Nat} (hm6 : hm < 6) (e : ∀ c, c < 6 → ρ1 (8 + 29 * c + S) = ρ (8 + 29 * c + S)) (nd : Int32) {c : Nat} (hc : c < 6) : tk ρ1 hm S nd c = tk ρ hm S nd c := by
  unfold tk tkh
  rw [lf_same hm6 e nd c (by omega), e hm hm6, e c hc]
theorem brw_same {ρ ρ1 : Row} {hm S nc : Nat} (hm6 : hm < 6) (h6 : nc ≤ 6) (e : ∀ c, c < 6 → ρ1 (8 + 29 * c + S) = ρ (8 + 29 * c + S)) (nd : Int32) : brw ρ1 hm S nd nc = brw ρ hm S nd nc := by
  unfold brw
  refine sm_congr (fun c hc => ?_)
  rw [lf_same hm6 e nd c (by omega), e c (by omega)]
theorem SetR.step {ρ ρ1 ρ2 : Row} {nc j hm S : Nat} {w : Nat → Int32} (g : SetR ρ nc j hm w S ρ1) (hS : S < 29) (hj : j < 12) (hm6 : hm < 6) (t : Tak ρ1 j hm S (w S) nc ρ2) : SetR ρ nc j hm w (S + 1) ρ2 := by
  obtain ⟨g1, g2, g3⟩ := g
  obtain ⟨t1, t2, t3⟩ := t
  have e : ∀ c, c < 6 → ρ1 (8 + 29 * c + S) = ρ (8 + 29 * c + S) := fun c hc => by rw [g1 c S hc hS, if_neg (fun q => absurd q.1 (Nat.lt_irrefl _))]
  have e2 : ∀ c, c < 6 → fm ρ1 j c S = fm ρ j c S := fun c hc => by rw [g2 c S hc hS, if_neg (fun q => absurd q.1 (Nat.lt_irrefl _))]
  refine ⟨fun c s hc hs => ?_, fun c s hc hs => ?_, fun x hx => ?_⟩
  · by_cases es : s = S
    · subst es
      rw [t1 c hc, tk_same hm6 e (w s) hc, e c hc]
      by_cases ec : c = hm ∨ c < nc
      · rw [if_pos ec, if_pos ⟨by omega, ec⟩]
      · rw [if_neg ec, if_neg (fun q => ec q.2)]
    · rw [t3 _ (fun c1 hc1 => by omega), g1 c s hc hs]
      by_cases ec : s < S ∧ (c = hm ∨ c < nc)
      · rw [if_pos ec, if_pos ⟨by omega, ec.2⟩]
      · rw [if_neg ec, if_neg (fun q => ec ⟨by omega, q.2⟩)]
  · by_cases es : s = S
    · subst es
      rw [t2 c hc, tk_same hm6 e (w s) hc, e2 c hc]
      by_cases ec : c = hm ∨ c < nc
      · rw [if_pos ec, if_pos ⟨by omega, ec⟩]
      · rw [if_neg ec, if_neg (fun q => ec q.2)]
    · rw [show fm ρ2 j c s = fm ρ1 j c s from t3 _ (fun c1 hc1 => by omega), g2 c s hc hs]
      by_cases ec : s < S ∧ (c = hm ∨ c < nc)
      · rw [if_pos ec, if_pos ⟨by omega, ec.2⟩]
      · rw [if_neg ec, if_neg (fun q => ec ⟨by omega, q.2⟩)]
  · rw [t3 x (fun c hc => hx c S hc hS)]
    exact g3 x hx
/-- the row behind set -/
def SetP (ρ : Row) (nc j hm : Nat) (ρ1 : Row) : Prop :=
  (∀ c s, c < 6 → s < 29 → ρ1 (8 + 29 * c + s) = if c = hm ∨ c < nc then ρ (8 + 29 * c + s) - tk ρ hm s (nS ρ nc j s) c else ρ (8 + 29 * c + s)) ∧
  (∀ c s, c < 6 → s < 29 → fm ρ1 j c s = if c = hm ∨ c < nc then fm ρ j c s + tk ρ hm s (nS ρ nc j s) c else fm ρ j c s) ∧
  (∀ g, g < (jL ρ j).1.2.2.1 → jb ρ1 j (241 + g) = fil ρ nc j g) ∧ jb ρ1 j 3 = 1 ∧
  ∀ x, (∀ c s, c < 6 → s < 29 → x ≠ 8 + 29 * c + s ∧ x ≠ 211 + 272 * j + (67 + 29 * c + s)) → (∀ g, g < (jL ρ j).1.2.2.1 → x ≠ 211 + 272 * j + (241 + g)) → x ≠ 211 + 272 * j + 3 → ρ1 x = ρ x
def sp_set (ρ : Row) (nc : Nat) (a : Int32) : Ans := if badJ ρ a then no (-1) else if jb ρ (ix a) 3 = 0 then (if lkN ρ nc (ix a) ≤ 0 then did (sm 29 (fun s => brw ρ (ix (jb ρ (ix a) 0)) s (nS ρ nc (ix a) s) nc)) (SetP ρ nc (ix a) (ix (jb ρ (ix a) 0))) else no (-4)) else no (-4)
section MSET2
variable {h0 h : Hp} {m : Nat} {σ : Nat → Nat → Int32} {K : Int32 → Hp → Prop} {k : Nat}
theorem s_set68 {j ng : Nat} (hj : j < 12) (hng : ng ≤ 30) (v : Int32) (ρ : Row) (σ0 : Nat → Nat → Int32) (h11 : σ0 11 0 = nI ng)
    (hK : ∀ h1 σ1, MB h0 m σ1 h1 → (∀ f, 1 ≤ f → σ1 f = σ0 f) → σ1 0 = ur (filR ρ j (fun g => filV (σ0 19 g) (σ0 20 g) (σ0 21 g)) ng) (211 + 272 * j + 3) 1 → K v h1) :
    ∀ (d g n : Nat) (σ : Nat → Nat → Int32) (h : Hp), g + d = ng → d < n → MB h0 m σ h → (∀ f, 1 ≤ f → σ f = σ0 f) → σ 0 = filR ρ j (fun g => filV (σ0 19 g) (σ0 20 g) (σ0 21 g)) g → V_X7_set_68 K n m (nI j) v (nI g) h := by
  intro d
  induction d with
  | zero =>
    intro i n σ h h1 h2 x f1 g
    obtain ⟨n, rfl⟩ : ∃ k, n = k + 1 := ⟨n - 1, by omega⟩
    obtain rfl : i = ng := by omega
    unfold V_X7_set_68
    simp only [x.s, true_and, f1 11 (by decide), h11]
    rw [nle (by omega) (by omega)]
    refine ⟨fun _ => s_put x hj (w := 3) (by decide) 1 (fun h3 x3 => hK h3 _ x3 (fun f hf => ?_) ?_), fun q => absurd (Nat.le_refl _) q⟩
    · rw [← f1 f hf]; funext y; rw [up_f (by omega)]
    · rw [up0, g]
  | succ d ih =>
    intro i n σ h h1 h2 x f1 g
    obtain ⟨n, rfl⟩ : ∃ k, n = k + 1 := ⟨n - 1, by omega⟩
    unfold V_X7_set_68
    simp only [x.s, true_and, f1 11 (by decide), f1 19 (by decide), f1 20 (by decide), f1 21 (by decide), h11, nI_1, e241, ix_nI (show i < 2 ^ 31 by omega), show vp_in (nI i) 32 from vin (by omega) (by omega)]
    rw [nle (by omega) (by omega)]
    refine ⟨fun q => absurd q (by omega), fun _ => s_put x hj (w := 241 + i) (by omega) _ (fun h3 x3 => ih (i + 1) n _ h3 (by omega) (by omega) x3 (fun f hf => ?_) ?_)⟩
    · rw [← f1 f hf]; funext y; rw [up_f (by omega)]
    · rw [up0, g]
      exact filR_S ρ j (fun g => filV (σ0 19 g) (σ0 20 g) (σ0 21 g)) i
theorem s_set45 {j nc ng hm : Nat} (hj : j < 12) (h6 : nc ≤ 6) (hm6 : hm < 6) (hng : ng ≤ 30) (ρ : Row) (σ0 : Nat → Nat → Int32) (h11 : σ0 11 0 = nI ng) (hn : ρ 0 = nI nc) (hh : jb ρ j 0 = nI hm)
    (hK : ∀ h1 σ1 ρ1, MB h0 m σ1 h1 → (∀ f, 1 ≤ f → σ1 f = σ0 f) → SetR ρ nc j hm (σ0 17) 29 ρ1 → σ1 0 = ur (filR ρ1 j (fun g => filV (σ0 19 g) (σ0 20 g) (σ0 21 g)) ng) (211 + 272 * j + 3) 1 → K (sm 29 (fun s => brw ρ hm s (σ0 17 s) nc)) h1) :
    ∀ (d s n : Nat) (σ : Nat → Nat → Int32) (h : Hp), s + d = 29 → d < n → MB h0 m σ h → (∀ f, 1 ≤ f → σ f = σ0 f) → SetR ρ nc j hm (σ0 17) s (σ 0) → V_X7_set_45 K n m (nI j) (sm s (fun s => brw ρ hm s (σ0 17 s) nc)) (nI s) h := by
  intro d
  induction d with
  | zero =>
    intro s n σ h h1 h2 x f1 g
    obtain ⟨n, rfl⟩ : ∃ k, n = k + 1 := ⟨n - 1, by omega⟩
    obtain rfl : s = 29 := by omega
    exact ⟨fun _ => ⟨ng + 1, s_set68 hj hng _ (σ 0) σ0 h11 (fun h3 σ3 x3 k1 k2 => hK h3 σ3 (σ 0) x3 k1 g k2) ng 0 (ng + 1) σ h (by omega) (by omega) x f1 (filR_0 _ _ _).symm⟩, fun z => absurd (by decide) z⟩
  | succ d ih =>
    intro s n σ h h1 h2 x f1 g
    obtain ⟨n, rfl⟩ : ∃ k, n = k + 1 := ⟨n - 1, by omega⟩
    unfold V_X7_set_45
    rw [c29 (by omega), nI_1]
    refine ⟨fun q => absurd q (by omega), fun _ => ⟨x.k, ?_⟩⟩
    have e0 : σ 0 0 = nI nc := by rw [g.2.2 0 (fun c s _ _ => by omega)]; exact hn
    have eh : jb (σ 0) j 0 = nI hm := by rw [show jb (σ 0) j 0 = jb ρ j 0 from g.2.2 _ (fun c s _ _ => by omega)]; exact hh
    refine s_takes x hj e0 h6 hm6 eh (by omega) (fun h3 σ3 x3 k1 k2 => ?_)
    rw [f1 17 (by decide)] at k2 ⊢
    have es : ∀ c, c < 6 → σ 0 (8 + 29 * c + s) = ρ (8 + 29 * c + s) := fun c hc => by rw [g.1 c s hc (by omega), if_neg (fun q => absurd q.1 (Nat.lt_irrefl _))]
    have := ih (s + 1) n σ3 h3 (by omega) (by omega) x3 (fun f hf => (k1 f hf).trans (f1 f hf)) (g.step (by omega) hj hm6 k2)
    rw [smS] at this
    rw [brw_same hm6 h6 es]
    exact this
theorem m_set (x : MB h0 m σ h) (hk : k ≤ 5) (hk2 : σ 2 0 = nI k) {nc nj : Nat} (hn : σ 0 0 = nI nc) (hn6 : nc ≤ 6) (hj : σ 0 1 = nI nj) (h12 : nj ≤ 12) (hJ : ∀ j, j < nj → JT (σ 0) j) (hH : ∀ j, j < nj → ∃ c, c < 6 ∧ jb (σ 0) j 0 = nI c)
    (a : Int32) (hO : OM h0 m σ k K (sp_set (σ 0) nc a)) : V_X7_set m a h K := by
  unfold V_X7_set
  unfold sp_set at hO
  simp only [x.s, s_noJob x, true_and]
  rcases badJ_of hj h12 a with hb | ⟨j, hj1, hj2, rfl, hb, hbi⟩
  · rw [if_pos hb] at hO ⊢
    exact ⟨fun q => absurd q ne01, fun _ => hO.no x Idle.rf⟩
  · rw [if_neg hb] at hO ⊢
    rw [hbi, show jb (σ 0) j 3 = σ 0 (211 + 272 * j + 3) from rfl] at hO
    refine ⟨fun _ => ?_, fun q => absurd rfl q⟩
    rw [s_oj x hj2 3 (by decide) (v := 3) rfl]
    refine ⟨fun q => ?_, fun q => ?_⟩
    · rw [if_pos q] at hO
      refine ⟨x.k, s_layNeeds x hj2 hn hn6 (hJ j hj1).1 (hJ j hj1).2 (fun h1 σ1 x1 f1 f8 hL hN => ⟨x1.k, s_allLacks x1 ?_⟩)⟩
      rw [sm_congr (fun s hs => lk_of hN hs), show sm 29 (fun s => lkF (σ 0) nc j s) = lkN (σ 0) nc j from rfl]
      have e0 := f1 0 (by decide)
      refine ⟨fun z => ?_, fun z => ?_⟩
      · rw [if_pos z] at hO
        obtain ⟨hm, hc6, hc⟩ := hH j hj1
        rw [hc, ix_nI (by omega)] at hO
        have hng : (jL (σ 0) j).1.2.2.1 ≤ 30 := (lay_bound (meas := jb (σ 0) j 1) (hJ j hj1).2).2
        refine ⟨x1.k, s_record x1 hk (by rw [f1 2 (by decide)]; exact hk2) (fun h2 σ2 x2 r2 => ?_)⟩
        have e2 : σ2 0 = σ 0 := (r2.1 0 (by decide) (by decide)).trans e0
        have w17 : ∀ s, s < 29 → σ2 17 s = nS (σ 0) nc j s := fun s hs => by rw [r2.1 17 (by decide) (by decide)]; exact (hN.1 s hs).1
        have rs : Rec σ k (fun f => if f ≤ 6 then σ2 f else σ f) := by
          refine ⟨fun f a b => ?_, ?_, fun i hi y hy => ?_⟩
          · show (if f ≤ 6 then σ2 f else σ f) = σ f
            by_cases b6 : f ≤ 6
            · rw [if_pos b6, r2.1 f a b]; exact f1 f b6
            · rw [if_neg b6]
          · show (if 2 ≤ 6 then σ2 2 else σ 2) 0 = _
            rw [if_pos (by decide)]; exact r2.2.1
          · show (if 1 ≤ 6 then σ2 1 else σ 1) _ = (if _ then σ 0 y else σ 1 _)
            rw [if_pos (by decide), r2.2.2 i hi y hy, f1 0 (by decide), f1 1 (by decide)]
        refine ⟨30, s_set45 hj2 hn6 hc6 hng (σ 0) σ2 (by rw [r2.1 11 (by decide) (by decide)]; exact hL.2.2.1) hn hc (fun h3 σ3 ρ1 x3 k1 k2 k3 => ?_) 29 0 30 σ2 h2 rfl (by decide) x2 (fun _ _ => rfl) ?_⟩
        · rw [sm_congr (fun s hs => by rw [w17 s hs])]
          refine hO.did x3 (Act.of rs (fun f a b => ?_) ?_)
          · show σ3 f = (if f ≤ 6 then σ2 f else σ f)
            rw [if_pos b]; exact k1 f a
          · rw [k3]
            obtain ⟨p1, p2, p3⟩ := k2
            have hur : ∀ y, y ≠ 211 + 272 * j + 3 → ¬ (211 + 272 * j + 241 ≤ y ∧ y < 211 + 272 * j + 241 + (jL (σ 0) j).1.2.2.1) → ur (filR ρ1 j (fun g => filV (σ2 19 g) (σ2 20 g) (σ2 21 g)) (jL (σ 0) j).1.2.2.1) (211 + 272 * j + 3) 1 y = ρ1 y := fun y a b => by
              rw [ur_n a]; exact if_neg b
            refine ⟨fun c s hc hs => ?_, fun c s hc hs => ?_, fun g hg => ?_, ur_s _ _ _, fun y y1 y2 y3 => ?_⟩
            · rw [hur _ (by omega) (by omega), p1 c s hc hs, w17 s hs]
              by_cases e : c = hm ∨ c < nc
              · rw [if_pos e, if_pos ⟨hs, e⟩]
              · rw [if_neg e, if_neg (fun q => e q.2)]
            · unfold fm
              rw [hur _ (by omega) (by omega)]
              have := p2 c s hc hs
              unfold fm at this
              rw [this, w17 s hs]
              by_cases e : c = hm ∨ c < nc
              · rw [if_pos e, if_pos ⟨hs, e⟩]
              · rw [if_neg e, if_neg (fun q => e q.2)]
            · unfold jb
              rw [ur_n (by omega)]
              unfold filR
              rw [if_pos (by omega), show 211 + 272 * j + (241 + g) - (211 + 272 * j + 241) = g by omega, r2.1 19 (by decide) (by decide), r2.1 20 (by decide) (by decide), r2.1 21 (by decide) (by decide)]
              obtain ⟨n1, n2, n3⟩ := hN.2 g hg
              show filV (σ1 19 g) (σ1 20 g) (σ1 21 g) = _
              rw [n1, n2, n3]
              rfl
            · rw [hur y y3 (fun q => y2 (y - (211 + 272 * j + 241)) (by omega) (by omega))]
              exact p3 y y1
        · rw [e2]
          exact ⟨fun c s _ _ => (if_neg (fun q => absurd q.1 (Nat.not_lt_zero _))).symm, fun c s _ _ => (if_neg (fun q => absurd q.1 (Nat.not_lt_zero _))).symm, fun _ _ => rfl⟩
      · rw [if_neg z] at hO
        exact hO.no x1 f1
    · rw [if_neg q] at hO
      exact hO.no x Idle.rf
end MSET2
