/-! the reference lays a job, finds a fault -/
theorem lyI_FG {tx : Nat → Int32} {meas : Int32} {len : Nat} : ∀ i, 0 < (lyI tx meas len i).2.1.1 → (lyI tx meas len i).2.2.2.2.1 (lyI tx meas len i).2.1.1 = (lyI tx meas len i).2.1.2.2.1 := by
  intro i
  induction i with
  | zero => intro h; exact absurd h (Nat.lt_irrefl 0)
  | succ i ih =>
    unfold lyI
    by_cases e : i = len ∨ tx i = 47
    · rw [if_pos e]
      intro _
      show (if (lyI tx meas len i).2.1.1 + 1 = (lyI tx meas len i).2.1.1 + 1 then _ else _) = _
      rw [if_pos rfl]
      rfl
    · rw [if_neg e]; exact ih
theorem lyI_room {tx : Nat → Int32} {meas : Int32} {len : Nat} (h : FF tx len) {i : Nat} (hi : i ≤ len) : (lyI tx meas len i).1 ≤ i ∧ (lyI tx meas len i).2.1.1 ≤ 29 ∧ (lyI tx meas len i).2.1.2.2.1 + gc (cB tx (lyI tx meas len i).1 (i - (lyI tx meas len i).1)) ≤ 30 := by
  obtain ⟨h1, h2, h3⟩ := lyI_inv (meas := meas) h i hi
  have e2 : cB tx 0 i = cB tx 0 (lyI tx meas len i).1 + cB tx (lyI tx meas len i).1 (i - (lyI tx meas len i).1) := by
    have := cB_app tx 0 (lyI tx meas len i).1 (i - (lyI tx meas len i).1)
    rw [Nat.zero_add] at this
    rw [← this]
    congr 1
    omega
  have e3 := h.seps hi
  refine ⟨h1, by omega, ?_⟩
  unfold gc
  split <;> omega
/-- the first fault of the characters from i on, d of them left; want: a letter is due -/
def flt (tx : Nat → Int32) : Nat → Bool → Nat → Option Nat
  | 0, want, i => if want = true then some i else none
  | d + 1, want, i => if isL (tx i) then flt tx d false (i + 1) else if want = true ∨ ¬ (tx i = 32 ∨ tx i = 47) then some i else flt tx d true (i + 1)
theorem flt_none {tx : Nat → Int32} : ∀ (d : Nat) (want : Bool) (i : Nat), flt tx d want i = none → (d = 0 → want = false) ∧ (0 < d → isL (tx (i + d - 1))) ∧ ∀ x, i ≤ x → x < i + d → isL (tx x) ∨ ((tx x = 32 ∨ tx x = 47) ∧ (x = i → want = false) ∧ (i < x → isL (tx (x - 1)))) := by
  intro d
  induction d with
  | zero =>
    intro want i h
    refine ⟨fun _ => ?_, fun q => absurd q (Nat.lt_irrefl 0), fun x h1 h2 => by omega⟩
    cases want with
    | false => rfl
    | true => cases h
  | succ d ih =>
    intro want i h
    unfold flt at h
    by_cases hl : isL (tx i)
    · rw [if_pos hl] at h
      obtain ⟨g1, g2, g3⟩ := ih _ _ h
      refine ⟨fun q => by omega, fun _ => ?_, fun x h1 h2 => ?_⟩
      · by_cases e : d = 0
        · subst e; exact hl
        · have := g2 (by omega)
          rw [show i + (d + 1) - 1 = i + 1 + d - 1 by omega]; exact this
      · by_cases e : x = i
        · subst e; exact Or.inl hl
        · rcases g3 x (by omega) (by omega) with q | ⟨q1, q2, q3⟩
          · exact Or.inl q
          · refine Or.inr ⟨q1, fun q => absurd q e, fun _ => ?_⟩
            by_cases e2 : x = i + 1
            · rw [e2]; exact hl
            · exact q3 (by omega)
    · rw [if_neg hl] at h
      by_cases hw : want = true ∨ ¬ (tx i = 32 ∨ tx i = 47)
      · rw [if_pos hw] at h; cases h
      · rw [if_neg hw] at h
        obtain ⟨g1, g2, g3⟩ := ih _ _ h
        have hm : tx i = 32 ∨ tx i = 47 := Classical.byContradiction fun q => hw (Or.inr q)
        have hwf : want = false := by
          cases want with
          | false => rfl
          | true => exact absurd (Or.inl rfl) hw
        have hd : d ≠ 0 := fun q => by have := g1 q; cases this
        refine ⟨fun q => by omega, fun _ => ?_, fun x h1 h2 => ?_⟩
        · have := g2 (by omega)
          rw [show i + (d + 1) - 1 = i + 1 + d - 1 by omega]; exact this
        · by_cases e : x = i
          · subst e
            exact Or.inr ⟨hm, fun _ => hwf, fun q => absurd q (Nat.lt_irrefl _)⟩
          · rcases g3 x (by omega) (by omega) with q | ⟨q1, q2, q3⟩
            · exact Or.inl q
            · refine Or.inr ⟨q1, fun q => absurd q e, fun _ => ?_⟩
              by_cases e2 : x = i + 1
              · have := q2 e2; cases this
              · exact q3 (by omega)
theorem flt_FF {tx : Nat → Int32} {len : Nat} (hl : len ≤ 60) (h : flt tx len true 0 = none) : FF tx len := by
  obtain ⟨h1, h2, h3⟩ := flt_none len true 0 h
  have h0 : 0 < len := by
    by_cases e : len = 0
    · have := h1 e; cases this
    · omega
  refine ⟨h0, hl, ?_, fun x hx => ?_⟩
  · have := h2 h0; rw [Nat.zero_add] at this; exact this
  · rcases h3 x (Nat.zero_le _) (by omega) with q | ⟨q1, q2, q3⟩
    · exact Or.inl q
    · by_cases e : x = 0
      · have := q2 e; cases this
      · exact Or.inr ⟨q1, by omega, q3 (by omega)⟩
def fltR (o : Option Nat) (z : Int32) : Int32 := match o with
  | none => z
  | some x => nI x
/-- a job's text, its layout -/
def jtx (ρ : Row) (j : Nat) : Nat → Int32 := fun x => jb ρ j (7 + x)
def jlay (ρ : Row) (j len : Nat) : LySt := lay (jtx ρ j) (jb ρ j 1) len
section MLAY2
variable {h0 h : Hp} {m : Nat} {σ : Nat → Nat → Int32}
theorem s_faultOf {K : Int32 → Hp → Prop} (x : MB h0 m σ h) {t : Nat} (ht : t ≤ 60) (h5 : σ 5 0 = nI t) (hK : K (fltR (flt (σ 6) t true 0) (-5)) h) : V_X7_faultOf m h K := by
  have key : ∀ (d i n : Nat) (want : Bool), i + d = t → d < n → K (fltR (flt (σ 6) d want i) (-5)) h → V_X7_faultOf_4 K n m (b01 want) (nI i) h := by
    intro d
    induction d with
    | zero =>
      intro i n want h1 h2 hk
      obtain ⟨n, rfl⟩ : ∃ k, n = k + 1 := ⟨n - 1, by omega⟩
      obtain rfl : i = t := by omega
      unfold V_X7_faultOf_4 V_X7_faultOf_89
      simp only [x.s, true_and, h5]
      rw [nle (by omega) (by omega)]
      refine ⟨fun _ => ?_, fun q => absurd (Nat.le_refl _) q⟩
      cases want with
      | true => exact ⟨fun q => absurd q ne01, fun _ => hk⟩
      | false => exact ⟨fun _ => hk, fun q => absurd rfl q⟩
    | succ d ih =>
      intro i n want h1 h2 hk
      obtain ⟨n, rfl⟩ : ∃ k, n = k + 1 := ⟨n - 1, by omega⟩
      unfold V_X7_faultOf_4 V_X7_faultOf_50 V_X7_faultOf_52 V_X7_faultOf_69
      simp only [x.s, true_and, h5, ix_nI (show i < 2 ^ 31 by omega), show vp_in (nI i) 60 from vin (by omega) (by omega), s_isLetter, nI_1]
      rw [nle (by omega) (by omega)]
      refine ⟨fun q => absurd q (by omega), fun _ => ?_⟩
      unfold flt at hk
      by_cases hl : isL (σ 6 i)
      · rw [if_pos hl] at hk
        rw [if_neg hl]
        exact ⟨fun _ => ⟨fun _ => ih (i + 1) n false (by omega) (by omega) hk, fun q => absurd q ne01⟩, fun q => absurd q ne01⟩
      · rw [if_neg hl] at hk
        rw [if_pos (Classical.not_not.mp hl)]
        refine ⟨fun q => absurd rfl q, fun _ => ⟨fun q => ?_, fun q => ?_⟩⟩
        · cases want with
          | true => exact hk
          | false => exact absurd rfl q
        · cases want with
          | true => exact absurd q ne01
          | false =>
            refine ⟨fun z => ?_, fun z => ⟨fun z2 => ?_, fun z2 => ?_⟩⟩
            · rw [if_neg (by simp [z])] at hk
              exact ⟨fun q => absurd rfl q, fun _ => ih (i + 1) n true (by omega) (by omega) hk⟩
            · rw [if_neg (by simp [z2])] at hk
              exact ⟨fun q => absurd rfl q, fun _ => ih (i + 1) n true (by omega) (by omega) hk⟩
            · rw [if_pos (Or.inr (fun q => q.elim z z2))] at hk
              exact hk
  exact ⟨t + 1, key t 0 (t + 1) true (by omega) (by omega) hK⟩
theorem s_ls24 {K : Hp → Prop} {meas : Int32} {tx : Nat → Int32} {len : Nat} (hF : FF tx len) (σ0 : Nat → Nat → Int32) (h7 : σ0 7 0 = nI len) (htx : ∀ i, i < len → σ0 8 i = tx i) (hK : ∀ h1 σ1, MB h0 m σ1 h1 → (∀ f, f ≤ 8 → σ1 f = σ0 f) → LRel (lay tx meas len) σ1 → K h1) :
    ∀ (d i n : Nat) (σ : Nat → Nat → Int32) (h : Hp), i + d = len + 1 → d < n → MB h0 m σ h → (∀ f, f ≤ 8 → σ f = σ0 f) → LRel (lyI tx meas len i).2 σ → V_X7_layLines_24 K n m meas (nI (lyI tx meas len i).1) (nI i) h := by
  have hlen := hF.2.1
  intro d
  induction d with
  | zero =>
    intro i n σ h h1 h2 x f1 hL
    obtain ⟨n, rfl⟩ : ∃ k, n = k + 1 := ⟨n - 1, by omega⟩
    obtain rfl : i = len + 1 := by omega
    unfold V_X7_layLines_24
    simp only [x.s, true_and, f1 7 (by decide), h7]
    rw [nI_ltI (by omega) (by omega)]
    exact ⟨fun _ => hK h σ x f1 hL, fun q => absurd (Nat.lt_succ_self _) q⟩
  | succ d ih =>
    intro i n σ h h1 h2 x f1 hL
    obtain ⟨n, rfl⟩ : ∃ k, n = k + 1 := ⟨n - 1, by omega⟩
    unfold V_X7_layLines_24
    simp only [x.s, true_and, f1 7 (by decide), h7]
    rw [nI_ltI (by omega) (by omega), nI_eq (by omega) (by omega)]
    refine ⟨fun q => absurd q (by omega), fun _ => ?_⟩
    obtain ⟨r1, r2, r3⟩ := lyI_room (meas := meas) hF (show i ≤ len by omega)
    have lin : (i = len ∨ tx i = 47) → V_X7_layLines_51 K (V_X7_layLines_24 K n) m meas (nI (lyI tx meas len i).1) (nI i) h := by
      intro e
      unfold V_X7_layLines_51 V_X7_layLines_62
      refine ⟨x.k, s_layLine (tx := tx) (L := (lyI tx meas len i).2) x hL r1 (by omega) (fun y y1 y2 => by rw [f1 8 (by decide)]; exact htx y (by omega)) (by omega) (by omega) (lyI_FG i) (fun h1 σ1 x1 k1 k2 => ?_)⟩
      have := ih (i + 1) n σ1 h1 (by omega) (by omega) x1 (fun f hf => (k1 f hf).trans (f1 f hf)) (by
        unfold lyI; rw [if_pos e]; exact k2)
      rw [nI_1]
      have e2 : (lyI tx meas len (i + 1)).1 = i + 1 := by unfold lyI; rw [if_pos e]
      rw [e2] at this
      exact this
    refine ⟨fun q => lin (Or.inl q), fun q => ?_⟩
    have et : σ 8 i = tx i := by rw [f1 8 (by decide)]; exact htx i (by omega)
    simp only [ix_nI (show i < 2 ^ 31 by omega), show vp_in (nI i) 60 from vin (by omega) (by omega), true_and, et]
    refine ⟨fun z => ?_, fun z => lin (Or.inr z)⟩
    have e : ¬ (i = len ∨ tx i = 47) := fun q2 => q2.elim q z
    have := ih (i + 1) n σ h (by omega) (by omega) x f1 (by unfold lyI; rw [if_neg e]; exact hL)
    unfold V_X7_layLines_62
    rw [nI_1]
    have e2 : (lyI tx meas len (i + 1)).1 = (lyI tx meas len i).1 := by
      show (if i = len ∨ tx i = 47 then _ else lyI tx meas len i : Nat × LySt).1 = _
      rw [if_neg e]
    rw [e2] at this
    exact this
theorem s_layLines {K : Hp → Prop} {meas : Int32} {tx : Nat → Int32} {len : Nat} (x : MB h0 m σ h) (hF : FF tx len) (h7 : σ 7 0 = nI len) (htx : ∀ i, i < len → σ 8 i = tx i) (hK : ∀ h1 σ1, MB h0 m σ1 h1 → (∀ f, f ≤ 8 → σ1 f = σ f) → LRel (lay tx meas len) σ1 → K h1) : V_X7_layLines m meas h K := by
  unfold V_X7_layLines
  refine ⟨x.k, fun h1 e1 => ?_⟩
  have x1 := x.ps 9 rfl e1
  refine ⟨x1.k, fun h2 e2 => ?_⟩
  have x2 := x1.ps 10 rfl e2
  refine ⟨x2.k, fun h3 e3 => ?_⟩
  have x3 := x2.ps 11 rfl e3
  refine ⟨x3.k, Or.inl rfl, fun h4 e4 => ?_⟩
  have x4 := x3.ps 16 rfl e4
  have hup : ∀ f, f ≤ 8 → up (up (up (up σ 9 0 0) 10 0 0) 11 0 0) 16 0 0 f = σ f := fun f hf => by
    funext y; rw [up_f (by omega), up_f (by omega), up_f (by omega), up_f (by omega)]
  refine ⟨len + 2, s_ls24 hF _ (by rw [hup 7 (by decide)]; exact h7) (fun i hi => by rw [hup 8 (by decide)]; exact htx i hi) (fun h5 σ5 x5 k1 k2 => hK h5 σ5 x5 (fun f hf => (k1 f hf).trans (hup f hf)) k2) (len + 1) 0 (len + 2) _ h4 (by omega) (by omega) x4 (fun _ _ => rfl) ?_⟩
  refine ⟨?_, ?_, ?_, ?_, fun l hl => absurd hl (Nat.not_lt_zero _), fun l _ hl => absurd hl (Nat.lt_irrefl 0), fun p hp => absurd hp (Nat.not_lt_zero _)⟩
  · rw [up_f (by decide), up_f (by decide), up_f (by decide), up_s]; rfl
  · rw [up_f (by decide), up_f (by decide), up_s]; rfl
  · rw [up_f (by decide), up_s]; rfl
  · rw [up_s]; rfl
theorem s_layJob {K : Hp → Prop} {j len : Nat} (x : MB h0 m σ h) (hj : j < 12) (h6 : jb (σ 0) j 6 = nI len) (hF : FF (jtx (σ 0) j) len)
    (hK : ∀ h1 σ1, MB h0 m σ1 h1 → (∀ f, f ≤ 6 → σ1 f = σ f) → σ1 7 0 = nI len → (∀ i, i < len → σ1 8 i = jtx (σ 0) j i) → LRel (jlay (σ 0) j len) σ1 → K h1) : V_X7_layJob m (nI j) h K := by
  have hlen := hF.2.1
  unfold V_X7_layJob
  refine ⟨x.k, ?_⟩
  rw [s_oj x hj 6 (by decide) (v := 6) rfl, show σ 0 (211 + 272 * j + 6) = nI len from h6]
  refine ⟨x.k, fun hq eq => ?_⟩
  have xq := x.ps 7 rfl eq
  have key : ∀ (d i n : Nat) (σ1 : Nat → Nat → Int32) (h1 : Hp), i + d = len → d < n → MB h0 m σ1 h1 → (∀ f, f ≤ 6 → σ1 f = σ f) → σ1 7 0 = nI len → (∀ y, y < i → σ1 8 y = jtx (σ 0) j y) → V_X7_layJob_13 K n m (nI j) (nI i) h1 := by
    intro d
    induction d with
    | zero =>
      intro i n σ1 h1 g1 g2 x1 f1 f7 f8
      obtain ⟨n, rfl⟩ : ∃ k, n = k + 1 := ⟨n - 1, by omega⟩
      obtain rfl : i = len := by omega
      unfold V_X7_layJob_13
      simp only [x1.s, true_and, f7]
      rw [nle (by omega) (by omega), s_oj x1 hj 1 (by decide) (v := 1) rfl, f1 0 (by decide)]
      refine ⟨fun _ => ⟨x1.k, ?_⟩, fun q => absurd (Nat.le_refl _) q⟩
      exact s_layLines x1 hF f7 f8 (fun h2 σ2 x2 k1 k2 => hK h2 σ2 x2 (fun f hf => (k1 f (by omega)).trans (f1 f hf)) (by rw [k1 7 (by decide)]; exact f7) (fun i hi => by rw [k1 8 (by decide)]; exact f8 i hi) k2)
    | succ d ih =>
      intro i n σ1 h1 g1 g2 x1 f1 f7 f8
      obtain ⟨n, rfl⟩ : ∃ k, n = k + 1 := ⟨n - 1, by omega⟩
      unfold V_X7_layJob_13
      simp only [x1.s, true_and, f7, e7]
      rw [nle (by omega) (by omega), s_ofJob x1 hj (show 7 + i < 272 by omega), f1 0 (by decide)]
      refine ⟨fun q => absurd q (by omega), fun _ => ?_⟩
      simp only [x1.s, ix_nI (show i < 2 ^ 31 by omega), show vp_in (nI i) 60 from vin (by omega) (by omega), true_and, nI_1]
      intro h2 e2
      refine ih (i + 1) n _ h2 (by omega) (by omega) (x1.pa 8 rfl e2) (fun f hf => by rw [← f1 f hf]; funext y; exact up_f (by omega)) (by rw [up_f (by decide)]; exact f7) (fun y hy => ?_)
      by_cases e : y = i
      · subst e; rw [up_s]; rfl
      · rw [up_i e]; exact f8 y (by omega)
  exact ⟨len + 1, key len 0 (len + 1) _ hq (by omega) (by omega) xq (fun f hf => by funext y; exact up_f (by omega)) (up_s _ _ _ _) (fun y hy => absurd hy (Nat.not_lt_zero _))⟩
end MLAY2
