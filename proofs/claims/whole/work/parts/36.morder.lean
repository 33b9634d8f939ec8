/-! the reference's calls: an order -/
/-- a job's places are zeros; its heads; its text -/
def oz (ρ : Row) (j i : Nat) : Row := fun x => if 211 + 272 * j ≤ x ∧ x < 211 + 272 * j + i then 0 else ρ x
def o6 (ρ : Row) (j : Nat) (b w d l : Int32) : Row := ur (ur (ur (ur (ur (ur ρ (211 + 272 * j + 0) b) (211 + 272 * j + 1) w) (211 + 272 * j + 2) d) (211 + 272 * j + 4) (-5)) (211 + 272 * j + 5) (-5)) (211 + 272 * j + 6) l
def os (ρ : Row) (j : Nat) (tx : Nat → Int32) (i : Nat) : Row := fun x => if 211 + 272 * j + 7 ≤ x ∧ x < 211 + 272 * j + 7 + i then tx (x - (211 + 272 * j + 7)) else ρ x
def ordR (ρ : Row) (j : Nat) (b w d : Int32) (tx : Nat → Int32) (t : Nat) : Row := ur (os (o6 (oz ρ j 272) j b w d (nI t)) j tx t) 1 (nI (j + 1))
theorem oz_0 (ρ : Row) (j : Nat) : oz ρ j 0 = ρ := by
  funext x
  exact if_neg (by omega)
theorem oz_S (ρ : Row) (j i : Nat) : ur (oz ρ j i) (211 + 272 * j + i) 0 = oz ρ j (i + 1) := by
  funext x
  show (if x = 211 + 272 * j + i then 0 else if 211 + 272 * j ≤ x ∧ x < 211 + 272 * j + i then 0 else ρ x) = (if 211 + 272 * j ≤ x ∧ x < 211 + 272 * j + (i + 1) then 0 else ρ x)
  by_cases e : x = 211 + 272 * j + i
  · rw [if_pos e, if_pos (by omega)]
  · rw [if_neg e]
    by_cases e2 : 211 + 272 * j ≤ x ∧ x < 211 + 272 * j + i
    · rw [if_pos e2, if_pos (by omega)]
    · rw [if_neg e2, if_neg (by omega)]
theorem os_0 (ρ : Row) (j : Nat) (tx : Nat → Int32) : os ρ j tx 0 = ρ := by
  funext x
  exact if_neg (by omega)
theorem os_S (ρ : Row) (j i : Nat) (tx : Nat → Int32) : ur (os ρ j tx i) (211 + 272 * j + (7 + i)) (tx i) = os ρ j tx (i + 1) := by
  funext x
  show (if x = 211 + 272 * j + (7 + i) then tx i else if 211 + 272 * j + 7 ≤ x ∧ x < 211 + 272 * j + 7 + i then tx (x - (211 + 272 * j + 7)) else ρ x) = (if 211 + 272 * j + 7 ≤ x ∧ x < 211 + 272 * j + 7 + (i + 1) then tx (x - (211 + 272 * j + 7)) else ρ x)
  by_cases e : x = 211 + 272 * j + (7 + i)
  · rw [if_pos e, if_pos (by omega), show x - (211 + 272 * j + 7) = i by omega]
  · rw [if_neg e]
    by_cases e2 : 211 + 272 * j + 7 ≤ x ∧ x < 211 + 272 * j + 7 + i
    · rw [if_pos e2, if_pos (by omega)]
    · rw [if_neg e2, if_neg (by omega)]
/-- an order whose text has no fault -/
def sp_ord (ρ : Row) (nj : Nat) (b w d : Int32) (tx : Nat → Int32) (t : Nat) : Ans := if (lay tx w t).1.2.2.2 = true then no (-4) else if nj = 12 then no (-3) else did (nI nj) (fun ρ' => ρ' = ordR ρ nj b w d tx t)
def sp_order (ρ : Row) (nj : Nat) (b w d : Int32) (tx : Nat → Int32) (t : Nat) : Ans := if badC ρ b then no (-1) else if w < 10 ∨ 150 < w then no (-2) else if d < 0 ∨ 9999 < d then no (-2) else match flt tx t true 0 with
  | some i => no ((-100) - nI i)
  | none => sp_ord ρ nj b w d tx t
theorem flt_le {tx : Nat → Int32} : ∀ (d : Nat) (want : Bool) (i y : Nat), flt tx d want i = some y → y ≤ i + d := by
  intro d
  induction d with
  | zero =>
    intro want i y h
    unfold flt at h
    by_cases e : want = true
    · rw [if_pos e] at h; cases h; omega
    · rw [if_neg e] at h; cases h
  | succ d ih =>
    intro want i y h
    unfold flt at h
    by_cases e : isL (tx i)
    · rw [if_pos e] at h
      have := ih _ _ _ h
      omega
    · rw [if_neg e] at h
      by_cases e2 : want = true ∨ ¬ (tx i = 32 ∨ tx i = 47)
      · rw [if_pos e2] at h; cases h; omega
      · rw [if_neg e2] at h
        have := ih _ _ _ h
        omega
section MORDER
variable {h0 h : Hp} {m : Nat} {σ : Nat → Nat → Int32} {K : Int32 → Hp → Prop} {k : Nat}
theorem s_ord219 {j t : Nat} (hj : j < 12) (ht : t ≤ 60) (ρ : Row) (σ0 : Nat → Nat → Int32) (h5 : σ0 5 0 = nI t) (hr : ρ 1 = nI j)
    (hK : ∀ h1 σ1, MB h0 m σ1 h1 → (∀ f, 1 ≤ f → σ1 f = σ0 f) → σ1 0 = ur (os ρ j (σ0 6) t) 1 (nI (j + 1)) → K (nI j) h1) :
    ∀ (d i n : Nat) (σ : Nat → Nat → Int32) (h : Hp), i + d = t → d < n → MB h0 m σ h → (∀ f, 1 ≤ f → σ f = σ0 f) → σ 0 = os ρ j (σ0 6) i → V_X7_order_219 K n m (nI j) (nI i) h := by
  intro d
  induction d with
  | zero =>
    intro i n σ h h1 h2 x f1 g
    obtain ⟨n, rfl⟩ : ∃ k, n = k + 1 := ⟨n - 1, by omega⟩
    obtain rfl : i = t := by omega
    unfold V_X7_order_219
    have e1 : σ 0 1 = nI j := by rw [g]; exact (if_neg (by omega)).trans hr
    simp only [x.s, true_and, f1 5 (by decide), h5, LT, e1, nI_1]
    rw [nle (by omega) (by omega)]
    refine ⟨fun _ h3 e3 => ?_, fun q => absurd (Nat.le_refl _) q⟩
    have x3 := x.pa 0 rfl e3
    refine hK h3 _ x3 (fun f hf => ?_) ?_
    · rw [← f1 f hf]; funext y; rw [up_f (by omega)]
    · rw [up0, g]
  | succ d ih =>
    intro i n σ h h1 h2 x f1 g
    obtain ⟨n, rfl⟩ : ∃ k, n = k + 1 := ⟨n - 1, by omega⟩
    unfold V_X7_order_219
    simp only [x.s, true_and, f1 5 (by decide), f1 6 (by decide), h5, nI_1, e7, ix_nI (show i < 2 ^ 31 by omega), show vp_in (nI i) 60 from vin (by omega) (by omega)]
    rw [nle (by omega) (by omega)]
    refine ⟨fun q => absurd q (by omega), fun _ => s_put x hj (w := 7 + i) (by omega) _ (fun h3 x3 => ih (i + 1) n _ h3 (by omega) (by omega) x3 (fun f hf => ?_) ?_)⟩
    · rw [← f1 f hf]; funext y; rw [up_f (by omega)]
    · rw [up0, g]
      exact os_S ρ j i (σ0 6)
theorem s_ord139 {j t : Nat} (hj : j < 12) (ht : t ≤ 60) (b w dd : Int32) (ρ : Row) (σ0 : Nat → Nat → Int32) (h5 : σ0 5 0 = nI t) (hr : ρ 1 = nI j)
    (hK : ∀ h1 σ1, MB h0 m σ1 h1 → (∀ f, 1 ≤ f → σ1 f = σ0 f) → σ1 0 = ordR ρ j b w dd (σ0 6) t → K (nI j) h1) :
    ∀ (d i n : Nat) (σ : Nat → Nat → Int32) (h : Hp), i + d = 272 → d < n → MB h0 m σ h → (∀ f, 1 ≤ f → σ f = σ0 f) → σ 0 = oz ρ j i → V_X7_order_139 K n m b w dd (nI j) (nI i) h := by
  intro d
  induction d with
  | zero =>
    intro i n σ h h1 h2 x f1 g
    obtain ⟨n, rfl⟩ : ∃ k, n = k + 1 := ⟨n - 1, by omega⟩
    obtain rfl : i = 272 := by omega
    refine ⟨fun _ => ⟨x.k, ?_⟩, fun z => absurd (by decide) z⟩
    refine s_put x hj (w := 0) (by decide) b (fun q1 y1 => ⟨y1.k, ?_⟩)
    refine s_put y1 hj (w := 1) (by decide) w (fun q2 y2 => ⟨y2.k, ?_⟩)
    refine s_put y2 hj (w := 2) (by decide) dd (fun q3 y3 => ⟨y3.k, ?_⟩)
    refine s_put y3 hj (w := 4) (by decide) (-5) (fun q4 y4 => ⟨y4.k, ?_⟩)
    refine s_put y4 hj (w := 5) (by decide) (-5) (fun q5 y5 => ⟨y5.k, y5.k, ?_⟩)
    refine s_put y5 hj (w := 6) (by decide) _ (fun q6 y6 => ?_)
    have e5 : hI q5 m 5 = nI t := by
      rw [y5.rs 5 rfl, up_f (by decide), up_f (by decide), up_f (by decide), up_f (by decide), up_f (by decide), f1 5 (by decide)]
      exact h5
    rw [e5] at y6
    refine ⟨t + 1, s_ord219 hj ht (o6 (oz ρ j 272) j b w dd (nI t)) σ0 h5 ?_ hK t 0 (t + 1) _ q6 (by omega) (by omega) y6 (fun f hf => ?_) ?_⟩
    · unfold o6
      rw [ur_n (by omega), ur_n (by omega), ur_n (by omega), ur_n (by omega), ur_n (by omega), ur_n (by omega)]
      exact (if_neg (by omega)).trans hr
    · rw [← f1 f hf]; funext y
      rw [up_f (by omega), up_f (by omega), up_f (by omega), up_f (by omega), up_f (by omega), up_f (by omega)]
    · rw [up0, up0, up0, up0, up0, up0, g, os_0]
      rfl
  | succ d ih =>
    intro i n σ h h1 h2 x f1 g
    obtain ⟨n, rfl⟩ : ∃ k, n = k + 1 := ⟨n - 1, by omega⟩
    unfold V_X7_order_139
    rw [show ((272 : Int32) ≤ nI i) = (nI 272 ≤ nI i) from rfl, nle (by omega) (by omega), nI_1]
    refine ⟨fun q => absurd q (by omega), fun _ => ⟨x.k, s_put x hj (w := i) (by omega) 0 (fun h3 x3 => ih (i + 1) n _ h3 (by omega) (by omega) x3 (fun f hf => ?_) ?_)⟩⟩
    · rw [← f1 f hf]; funext y; rw [up_f (by omega)]
    · rw [up0, g]
      exact oz_S ρ j i
theorem s_ord66 (hk : k ≤ 5) {nj t : Nat} (h12 : nj ≤ 12) (b w dd : Int32) (σs σ0 : Nat → Nat → Int32) (hs : ∀ f, f ≤ 6 → σ0 f = σs f) (hk2 : σs 2 0 = nI k) (hj : σs 0 1 = nI nj) (h5 : σs 5 0 = nI t) (h7 : σ0 7 0 = nI t) (hF : FF (σs 6) t) (hO : OM h0 m σs k K (sp_ord (σs 0) nj b w dd (σs 6) t)) :
    ∀ (d i n : Nat) (σ : Nat → Nat → Int32) (h : Hp), i + d = t → d < n → MB h0 m σ h → (∀ f, f ≤ 7 → σ f = σ0 f) → (∀ p, p < i → σ 8 p = σs 6 p) → V_X7_order_66 K n m b w dd (nI i) h := by
  have ht : t ≤ 60 := hF.2.1
  intro d
  induction d with
  | zero =>
    intro i n σ h h1 h2 x f1 g
    obtain ⟨n, rfl⟩ : ∃ k, n = k + 1 := ⟨n - 1, by omega⟩
    obtain rfl : i = t := by omega
    unfold V_X7_order_66
    have e5 : σ 5 0 = nI i := by rw [f1 5 (by decide), hs 5 (by decide)]; exact h5
    simp only [x.s, true_and, e5]
    rw [nle (by omega) (by omega)]
    refine ⟨fun _ => ?_, fun q => absurd (Nat.le_refl _) q⟩
    refine s_layLines x hF (by rw [f1 7 (by decide)]; exact h7) g (fun h3 σ3 x3 k1 hL => ?_)
    have id3 : Idle σs σ3 := fun f hf => by rw [k1 f (by omega), f1 f (by omega), hs f hf]
    have ej : σ3 0 1 = nI nj := by rw [id3 0 (by decide)]; exact hj
    simp only [x3.s, true_and, LT, hL.2.2.2.1, ej, q12 (show nj < 2 ^ 31 by omega)]
    unfold sp_ord at hO
    cases et : (lay (σs 6) w i).1.2.2.2 with
    | true =>
      rw [if_pos et] at hO
      exact ⟨fun z => absurd z ne01, fun _ => hO.no x3 id3⟩
    | false =>
      rw [if_neg (by rw [et]; exact Bool.false_ne_true)] at hO
      refine ⟨fun _ => ⟨fun z => ?_, fun z => ?_⟩, fun z => absurd rfl z⟩
      · rw [if_neg z] at hO
        refine s_record x3 hk (by rw [id3 2 (by decide)]; exact hk2) (fun h4 σ4 x4 r4 => ?_)
        have e0 : σ4 0 = σs 0 := (r4.1 0 (by decide) (by decide)).trans (id3 0 (by decide))
        simp only [x4.s, true_and, LT, e0, hj]
        have rs : Rec σs k (fun f => if f ≤ 6 then σ4 f else σs f) := by
          refine ⟨fun f a b => ?_, ?_, fun i hi y hy => ?_⟩
          · show (if f ≤ 6 then σ4 f else σs f) = σs f
            by_cases b6 : f ≤ 6
            · rw [if_pos b6, r4.1 f a b]; exact id3 f b6
            · rw [if_neg b6]
          · show (if 2 ≤ 6 then σ4 2 else σs 2) 0 = _
            rw [if_pos (by decide)]; exact r4.2.1
          · show (if 1 ≤ 6 then σ4 1 else σs 1) _ = (if _ then σs 0 y else σs 1 _)
            rw [if_pos (by decide), r4.2.2 i hi y hy, id3 0 (by decide), id3 1 (by decide)]
        refine ⟨273, s_ord139 (show nj < 12 by omega) ht b w dd (σs 0) σ4 ?_ hj (fun h5 σ5 x5 p1 p2 => ?_) 272 0 273 σ4 h4 rfl (by decide) x4 (fun _ _ => rfl) ?_⟩
        · rw [r4.1 5 (by decide) (by decide), id3 5 (by decide)]; exact h5
        · refine hO.did x5 (Act.of rs (fun f a c => ?_) ?_)
          · show σ5 f = (if f ≤ 6 then σ4 f else σs f)
            rw [if_pos c]; exact p1 f a
          · rw [p2, r4.1 6 (by decide) (by decide), id3 6 (by decide)]
        · rw [e0, oz_0]
      · rw [if_pos z] at hO
        exact hO.no x3 id3
  | succ d ih =>
    intro i n σ h h1 h2 x f1 g
    obtain ⟨n, rfl⟩ : ∃ k, n = k + 1 := ⟨n - 1, by omega⟩
    unfold V_X7_order_66
    have e5 : σ 5 0 = nI t := by rw [f1 5 (by decide), hs 5 (by decide)]; exact h5
    have e6 : σ 6 = σs 6 := by rw [f1 6 (by decide), hs 6 (by decide)]
    simp only [x.s, true_and, e5, e6, nI_1, ix_nI (show i < 2 ^ 31 by omega), show vp_in (nI i) 60 from vin (by omega) (by omega)]
    rw [nle (by omega) (by omega)]
    refine ⟨fun q => absurd q (by omega), fun _ h3 e3 => ?_⟩
    have x3 := x.pa 8 rfl e3
    refine ih (i + 1) n _ h3 (by omega) (by omega) x3 (fun f hf => ?_) (fun p hp => ?_)
    · rw [← f1 f hf]; funext y; rw [up_f (by omega)]
    · by_cases e : p = i
      · rw [e, up_s]
      · rw [up_i e]; exact g p (by omega)
theorem m_order (x : MB h0 m σ h) (hk : k ≤ 5) (hk2 : σ 2 0 = nI k) {nc nj t : Nat} (hn : σ 0 0 = nI nc) (hn6 : nc ≤ 6) (hj : σ 0 1 = nI nj) (h12 : nj ≤ 12) (ht : t ≤ 60) (h5 : σ 5 0 = nI t) (b w dd : Int32)
    (hO : OM h0 m σ k K (sp_order (σ 0) nj b w dd (σ 6) t)) : V_X7_order m b w dd h K := by
  unfold V_X7_order V_X7_order_33
  unfold sp_order at hO
  simp only [x.s, s_noCase x, s_in, true_and]
  by_cases c1 : b < 0 ∨ σ 0 0 - 1 < b
  · rw [if_pos c1] at hO ⊢
    exact ⟨fun q => absurd q ne01, fun _ => hO.no x Idle.rf⟩
  · rw [if_neg c1] at hO ⊢
    refine ⟨fun _ => ?_, fun q => absurd rfl q⟩
    by_cases c2 : w < 10 ∨ 150 < w
    · rw [if_pos c2] at hO ⊢
      exact ⟨fun _ => hO.no x Idle.rf, fun q => absurd rfl q⟩
    · rw [if_neg c2] at hO ⊢
      refine ⟨fun q => absurd q ne01, fun _ => ?_⟩
      by_cases c3 : dd < 0 ∨ 9999 < dd
      · rw [if_pos c3] at hO ⊢
        exact ⟨fun q => absurd rfl q, fun _ => hO.no x Idle.rf⟩
      · rw [if_neg c3] at hO ⊢
        refine ⟨fun _ => s_faultOf x ht h5 ?_, fun q => absurd q ne01⟩
        cases ef : flt (σ 6) t true 0 with
        | some i =>
          rw [ef] at hO
          have hi := flt_le _ _ _ _ ef
          have hne : ¬ nI i = (-5 : Int32) := by
            intro q
            have := congrArg Int32.toInt q
            rw [nI_toInt (by omega)] at this
            have e : (-5 : Int32).toInt = -5 := by decide
            omega
          exact ⟨fun q => absurd q hne, fun _ => hO.no x Idle.rf⟩
        | none =>
          rw [ef] at hO
          refine ⟨fun _ => ⟨x.k, x.k, fun h3 e3 => ?_⟩, fun q => absurd rfl q⟩
          have x3 := x.ps 7 rfl e3
          rw [x.rs 5 rfl, h5] at x3
          exact ⟨t + 1, s_ord66 hk h12 b w dd σ _ (fun f hf => by funext y; rw [up_f (by omega)]) hk2 hj h5 (by rw [up_s]) (flt_FF ht ef) hO t 0 (t + 1) _ h3 (by omega) (by omega) x3 (fun _ _ => rfl) (fun p hp => absurd hp (Nat.not_lt_zero _))⟩
end MORDER
