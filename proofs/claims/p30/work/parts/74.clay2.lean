/-! an object with its arrays is made; the class: a text is laid -/
/-- since hh the object y of kind ky is made, and for its fields f the arrays D f (kind, length) -/
def NA (hh : Hp) (y ky : Nat) (D : Nat → Nat × Nat) (h : Hp) : Prop :=
  Old hh h ∧ hK hh y = 0 ∧ hK h y = ky ∧ (∀ f, (D f).1 ≠ 0 → hR h y f ≠ 0 ∧ hR h y f ≠ y ∧ hK hh (hR h y f) = 0 ∧ hK h (hR h y f) = (D f).1 ∧ hL h (hR h y f) = (D f).2 ∧ (∀ i, hI h (hR h y f) i = 0) ∧ ∀ i, hR h (hR h y f) i = 0) ∧ (∀ i, hI h y i = 0) ∧
  ∀ c, hK h c ≠ 0 → hK hh c ≠ 0 ∨ c = y ∨ ∃ f, (D f).1 ≠ 0 ∧ c = hR h y f
theorem NA.of {hh h : Hp} {y ky : Nat} (hz : hK hh y = 0) (e : h = nN hh y ky 0) : NA hh y ky (fun _ => (0, 0)) h := by
  subst e
  refine ⟨(Old.rf hh).n hz, hz, by rw [hK_nN, if_pos rfl], fun f hf => absurd rfl hf, fun i => by rw [hI_nN, if_pos rfl], fun c hc => ?_⟩
  by_cases e : c = y
  · exact Or.inr (Or.inl e)
  · rw [hK_nN, if_neg e] at hc; exact Or.inl hc
theorem NA.i0 {hh h h1 : Hp} {y ky : Nat} {D : Nat → Nat × Nat} (N : NA hh y ky D h) {i : Nat} {v : Int32} (hv : v = 0) (e : h1 = sI h y i v) : NA hh y ky D h1 := by
  subst e hv
  obtain ⟨o, hz, ku, ar, v0, cl⟩ := N
  refine ⟨o.i hz, hz, ku, fun f hf => ?_, fun j => ?_, cl⟩
  · obtain ⟨a1, a0, a2, a3, a4, a5, a6⟩ := ar f hf
    exact ⟨a1, a0, a2, a3, a4, fun j => by rw [hI_sI, if_neg (fun w => a0 w.1)]; exact a5 j, a6⟩
  · rw [hI_sI]
    split
    · rfl
    · exact v0 j
theorem NA.arr {hh h h1 : Hp} {y ky q k n : Nat} {D : Nat → Nat × Nat} (N : NA hh y ky D h) (hky : ky ≠ 0) (n1 : q ≠ 0) (z : hK h q = 0) (e1 : h1 = nN h q k n) (hk : k ≠ 0) (f : Nat) (hf : (D f).1 = 0) : hK h1 y = ky ∧ ∀ h2, h2 = sR h1 y f q → NA hh y ky (fun g => if g = f then (k, n) else D g) h2 := by
  obtain ⟨o, hz, ku, ar, v0, cl⟩ := N
  have nq : y ≠ q := fun e => hky (by rw [← ku, e]; exact z)
  have k1 : hK h1 y = ky := by rw [e1, hK_nN, if_neg nq]; exact ku
  refine ⟨k1, fun h2 e2 => ?_⟩
  have rO : ∀ g, g ≠ f → hR h2 y g = hR h y g := fun g hg => by rw [e2, hR_sR, if_neg (fun w => hg w.2), e1, hR_nN, if_neg nq]
  have rf : hR h2 y f = q := by rw [e2, hR_sR, if_pos ⟨rfl, rfl⟩]
  have kO : ∀ c, c ≠ q → hK h2 c = hK h c := fun c hc => by rw [e2, hK_sR, e1, hK_nN, if_neg hc]
  have kq : hK h2 q = k := by rw [e2, hK_sR, e1, hK_nN, if_pos rfl]
  have zq : hK hh q = 0 := o.z z
  refine ⟨?_, hz, by rw [kO y nq]; exact ku, fun g hg => ?_, fun i => ?_, fun c hc => ?_⟩
  · rw [e2, e1]; exact (o.n z).r hz
  · by_cases e : g = f
    · subst e
      rw [rf]
      show q ≠ 0 ∧ q ≠ y ∧ hK hh q = 0 ∧ hK h2 q = (if g = g then (k, n) else D g).1 ∧ hL h2 q = (if g = g then (k, n) else D g).2 ∧ (∀ i, hI h2 q i = 0) ∧ ∀ i, hR h2 q i = 0
      rw [if_pos rfl]
      exact ⟨n1, nq.symm, zq, kq, by rw [e2, hL_sR, e1, hL_nN, if_pos rfl], fun i => by rw [e2, hI_sR, e1, hI_nN, if_pos rfl], fun i => by rw [e2, hR_sR, if_neg (fun w => nq w.1.symm), e1, hR_nN, if_pos rfl]⟩
    · have eD : (fun g => if g = f then (k, n) else D g) g = D g := if_neg e
      rw [eD] at hg ⊢
      obtain ⟨a1, a0, a2, a3, a4, a5, a6⟩ := ar g hg
      have nr : hR h y g ≠ q := fun w => hg (by rw [← a3, w]; exact z)
      rw [rO g e]
      exact ⟨a1, a0, a2, by rw [kO _ nr]; exact a3, by rw [e2, hL_sR, e1, hL_nN, if_neg nr]; exact a4, fun i => by rw [e2, hI_sR, e1, hI_nN, if_neg nr]; exact a5 i, fun i => by rw [e2, hR_sR, if_neg (fun w => a0 w.1), e1, hR_nN, if_neg nr]; exact a6 i⟩
  · rw [e2, hI_sR, e1, hI_nN, if_neg nq]; exact v0 i
  · by_cases e : c = q
    · exact Or.inr (Or.inr ⟨f, by rw [show (fun g => if g = f then (k, n) else D g) f = (k, n) from if_pos rfl]; exact hk, by rw [rf]; exact e⟩)
    · rw [kO c e] at hc
      rcases cl c hc with w | w | ⟨g, w1, w2⟩
      · exact Or.inl w
      · exact Or.inr (Or.inl w)
      · have hgf : g ≠ f := fun w => w1 (by rw [w]; exact hf)
        exact Or.inr (Or.inr ⟨g, by rw [show (fun g => if g = f then (k, n) else D g) g = D g from if_neg hgf]; exact w1, by rw [rO g hgf]; exact w2⟩)
section CLAY2
variable {h0 h : Hp} {y dr t : Nat} {tx : Nat → Int32} {meas : Int32} {K : Hp → Prop}
theorem k_ly80 (hF : FF tx t) (hdr : hK h0 dr = 1 ∧ hK h0 (hR h0 dr 0) = 21 ∧ hL h0 (hR h0 dr 0) = 60) (hdt : ∀ i, i < t → hI h0 (hR h0 dr 0) i = tx i)
    (kk : ∀ h1 φ1, LB h0 y φ1 h1 → (∀ i, i < t → φ1 25 i = tx i) → (∀ s, s < 26 → φ1 31 s = nd tx s t) → LC (lay tx meas t) φ1 → K h1) :
    ∀ (d i n : Nat) (φ : Nat → Nat → Int32) (h : Hp), i + d = t → d < n → LB h0 y φ h → (∀ p, p < i → φ 25 p = tx p) → (∀ s, s < 26 → φ 31 s = nd tx s (lyI tx meas t i).1) → LC (lyI tx meas t i).2 φ → V_X2_init_80 K n y dr meas (nI (lyI tx meas t i).1) (nI t) (nI i) h := by
  have t60 := hF.2.1
  intro d
  induction d with
  | zero =>
    intro i n φ h p1 p2 b g1 g2 g3
    obtain ⟨n, rfl⟩ : ∃ k, n = k + 1 := ⟨n - 1, by omega⟩
    obtain rfl : i = t := by omega
    obtain ⟨r1, r2, r3⟩ := lyI_room (meas := meas) hF (Nat.le_refl i)
    unfold V_X2_init_80
    rw [nle (by omega) (by omega)]
    refine ⟨fun _ => ⟨b.K 3 rfl, k_addLine b g3 r1 t60 (fun p _ hp => g1 p hp) r2 r3 (lyI_FG i) g2 (fun h1 φ1 b1 e1 e2 e3 => ?_)⟩, fun q => absurd (Nat.le_refl _) q⟩
    refine kk h1 φ1 b1 (fun p hp => by rw [e1]; exact g1 p hp) e2 ?_
    rw [lay_last]; exact e3
  | succ d ih =>
    intro i n φ h p1 p2 b g1 g2 g3
    obtain ⟨n, rfl⟩ : ∃ k, n = k + 1 := ⟨n - 1, by omega⟩
    obtain ⟨r1, r2, r3⟩ := lyI_room (meas := meas) hF (show i ≤ t by omega)
    have kd : hK h dr = 1 := (b.2.2.1 dr).trans hdr.1
    have kt : hK h (hR h0 dr 0) = 21 := (b.2.2.1 _).trans hdr.2.1
    have lt : hL h (hR h0 dr 0) = 60 := (b.2.2.2.1 _).trans hdr.2.2
    have vt : hI h (hR h0 dr 0) i = tx i := by
      rw [b.2.2.2.2.2 _ (fun k hk e => ?_)]
      · exact hdt i (by omega)
      · have := b.1.1 k hk
        rw [← e, hdr.2.1] at this
        rw [← this] at hk; cases hk
    unfold V_X2_init_80 V_X2_init_126
    rw [nle (by omega) (by omega)]
    simp only [b.s, kd, kt, lt, ix_nI (show i < 2 ^ 31 by omega), show vp_in (nI i) 60 from vin (by omega) (by omega), vt, true_and, hF.cn (show i < t by omega), nI_1]
    refine ⟨fun q => absurd q (by omega), fun _ h1 e1 => ?_⟩
    have b1 := b.put 25 rfl e1
    have g1' : ∀ p, p < i + 1 → up φ 25 i (tx i) 25 p = tx p := fun p hp => by
      by_cases e : p = i
      · rw [e, up_s]
      · rw [up_i e]; exact g1 p (by omega)
    simp only [b1.s, show vp_in (nI i) 60 from vin (by omega) (by omega), up_s, true_and]
    refine ⟨fun q => ?_, fun q => ?_⟩
    · have eI : lyI tx meas t (i + 1) = lyI tx meas t i := if_neg (fun z => z.elim (by omega) q)
      have := ih (i + 1) n _ h1 (by omega) (by omega) b1 g1'
      rw [eI] at this
      refine this (fun s hs => by rw [up_f (by decide)]; exact g2 s hs) ?_
      obtain ⟨l1, l2, l3, l4, l5, l6⟩ := g3
      exact ⟨(up_f (by decide)).trans l1, (up_f (by decide)).trans l2, (up_f (by decide)).trans l3, (up_f (by decide)).trans l4, fun l hl => ⟨(up_f (by decide)).trans (l5 l hl).1, (up_f (by decide)).trans (l5 l hl).2⟩, fun w p hp => (up_f (by decide)).trans (l6 w p hp)⟩
    · have eI : lyI tx meas t (i + 1) = (i + 1, lyL tx meas (lyI tx meas t i).1 i (lyI tx meas t i).2) := if_pos (Or.inr q)
      have l3' : LC (lyI tx meas t i).2 (up φ 25 i (tx i)) := by
        obtain ⟨l1, l2, l3, l4, l5, l6⟩ := g3
        exact ⟨(up_f (by decide)).trans l1, (up_f (by decide)).trans l2, (up_f (by decide)).trans l3, (up_f (by decide)).trans l4, fun l hl => ⟨(up_f (by decide)).trans (l5 l hl).1, (up_f (by decide)).trans (l5 l hl).2⟩, fun w p hp => (up_f (by decide)).trans (l6 w p hp)⟩
      refine k_addLine b1 l3' r1 (by omega) (fun p _ hp => g1' p (by omega)) r2 r3 (lyI_FG i) (fun s hs => by rw [up_f (by decide)]; exact g2 s hs) (fun h2 φ2 b2 e1 e2 e3 => ?_)
      have := ih (i + 1) n φ2 h2 (by omega) (by omega) b2 (fun p hp => by rw [e1]; exact g1' p hp)
      rw [eI] at this
      refine this (fun s hs => ?_) e3
      show φ2 31 s = nd tx s i + (if isL (tx i) ∧ ix (tx i - 97) = s then 1 else 0)
      rw [e2 s hs, if_neg (fun w => by rw [q] at w; exact isL47 w.1), Int32.add_zero]
theorem k_lyInit {hh : Hp} (hy : y ≠ 0) (hz : hK hh y = 0) (e : h = nN hh y 3 0) (hF : FF tx t) (hdr : hK hh dr = 1 ∧ hK hh (hR hh dr 0) = 21 ∧ hL hh (hR hh dr 0) = 60) (hd1 : hI hh dr 1 = nI t) (hdt : ∀ i, i < t → hI hh (hR hh dr 0) i = tx i)
    (kk : ∀ h', Old hh h' → (∀ c, hK h' c = 6 → hK hh c = 6) → hK h' y = 3 → hI h' y 8 = b01 (lay tx meas t).1.2.2.2 → ((lay tx meas t).1.2.2.2 = false → LayR h' y tx meas t) → K h') : V_X2_init y dr meas h K := by
  have N0 := NA.of hz e
  refine ⟨hy, fun q1 n1 z1 h1 e1 => ?_⟩
  obtain ⟨a1, N1⟩ := N0.arr (by decide) n1 z1 e1 (by decide) 0 rfl
  refine ⟨a1, fun h2 e2 q2 n2 z2 h3 e3 => ?_⟩
  obtain ⟨a2, N2⟩ := (N1 h2 e2).arr (by decide) n2 z2 e3 (by decide) 1 rfl
  refine ⟨a2, fun h4 e4 q3 n3 z3 h5 e5 => ?_⟩
  obtain ⟨a3, N3⟩ := (N2 h4 e4).arr (by decide) n3 z3 e5 (by decide) 2 rfl
  refine ⟨a3, fun h6 e6 q4 n4 z4 h7 e7 => ?_⟩
  obtain ⟨a4, N4⟩ := (N3 h6 e6).arr (by decide) n4 z4 e7 (by decide) 3 rfl
  refine ⟨a4, fun h8 e8 q5 n5 z5 h9 e9 => ?_⟩
  obtain ⟨a5, N5⟩ := (N4 h8 e8).arr (by decide) n5 z5 e9 (by decide) 4 rfl
  refine ⟨a5, fun ha ea => ?_⟩
  have Na := N5 ha ea
  refine ⟨Na.2.2.1, fun hb eb => ?_⟩
  have Nb := Na.i0 rfl eb
  refine ⟨Nb.2.2.1, fun hc ec => ?_⟩
  have Nc := Nb.i0 rfl ec
  refine ⟨Nc.2.2.1, fun hd ed => ?_⟩
  have Nd := Nc.i0 rfl ed
  refine ⟨Nd.2.2.1, Or.inl rfl, fun he ee => ?_⟩
  obtain ⟨o, -, ky, ar, v0, cl⟩ := Nd.i0 rfl ee
  obtain ⟨p0, p0', p1, p2, p3, p4, -⟩ := ar 0 (by decide)
  obtain ⟨q0, q0', q1, q2, q3, q4, -⟩ := ar 1 (by decide)
  obtain ⟨r0, r0', r1, r2, r3, r4, -⟩ := ar 2 (by decide)
  obtain ⟨s0, s0', s1, s2, s3, s4, -⟩ := ar 3 (by decide)
  obtain ⟨t0, t0', t1, t2, t3, t4, -⟩ := ar 4 (by decide)
  have od := o dr (by rw [hdr.1]; decide)
  have ot := o (hR hh dr 0) (by rw [hdr.2.1]; decide)
  have kd : hK he dr = 1 := od.1.trans hdr.1
  have six : ∀ P : Nat → Prop, P 3 → P 25 → P 31 → P 32 → P 33 → P 34 → ∀ k, lk6 k = true → P k := fun P a b c d e f k hk => by
    unfold lk6 at hk
    simp only [Bool.or_eq_true, beq_iff_eq] at hk
    rcases hk with ((((w | w) | w) | w) | w) | w <;> subst w <;> assumption
  have b : LB he y (fun k i => hI he (lc he y k) i) he := by
    refine ⟨⟨six _ ky p2 q2 r2 s2 t2, six _ (fun w => absurd rfl w) (fun _ => p3) (fun _ => q3) (fun _ => r3) (fun _ => s3) (fun _ => t3)⟩, fun _ _ _ => rfl, fun _ => rfl, fun _ => rfl, fun _ _ => rfl, fun _ _ _ => rfl⟩
  have lz : ∀ k, lk6 k = true → hK hh (lc he y k) = 0 := six _ hz p1 q1 r1 s1 t1
  rw [od.2.2.1, hd1]
  refine ⟨kd, t + 1, ?_⟩
  rw [show (if 60 < nI t then 60 else nI t) = nI t from if_neg (fun w => by have := (nI_ltI (a := 60) (by decide) (show t < 2 ^ 31 by have := hF.2.1; omega)).mp w; have := hF.2.1; omega)]
  refine k_ly80 (h0 := he) (y := y) (dr := dr) hF ⟨kd, by rw [od.2.2.2]; exact ot.1.trans hdr.2.1, by rw [od.2.2.2]; exact ot.2.1.trans hdr.2.2⟩ (fun i hi => by rw [od.2.2.2, ot.2.2.1]; exact hdt i hi) (fun h1 φ1 b1 g1 g2 g3 => ?_) t 0 (t + 1) _ he (Nat.zero_add _) (Nat.lt_succ_self _) b (fun p hp => absurd hp (Nat.not_lt_zero _)) (fun s hs => q4 s) ⟨v0 5, v0 6, v0 7, v0 8, fun l hl => absurd hl (Nat.not_lt_zero _), fun _ p hp => absurd hp (Nat.not_lt_zero _)⟩
  obtain ⟨l5, l6, l7, l8, l32, l34⟩ := g3
  refine kk h1 (fun c hc => ?_) (fun c hc => ?_) (b1.K 3 rfl) ((b1.2.1 3 rfl 8).trans l8) (fun hw => ?_)
  · obtain ⟨o1, o2, o3, o4⟩ := o c hc
    exact ⟨(b1.2.2.1 c).trans o1, (b1.2.2.2.1 c).trans o2, fun i => (b1.2.2.2.2.2 c (fun k hk w => hc (by rw [w]; exact lz k hk)) i).trans (o3 i), fun i => (b1.2.2.2.2.1 c i).trans (o4 i)⟩
  · rw [b1.2.2.1] at hc
    rcases cl c (by rw [hc]; decide) with w | w | ⟨f, w1, w2⟩
    · rw [← (o c w).1]; exact hc
    · rw [w, ky] at hc; omega
    · exfalso
      have := (ar f w1).2.2.2.1
      rw [← w2, hc] at this
      revert this
      show 6 = (if f = 4 then (34, 30) else if f = 3 then (33, 30) else if f = 2 then (32, 30) else if f = 1 then (31, 26) else if f = 0 then (25, 60) else (0, 0)).1 → False
      split <;> (try split) <;> (try split) <;> (try split) <;> (try split) <;> intro w <;> exact absurd w (by decide)
  · have rr := b1.2.2.2.2.1
    refine ⟨b1.K 3 rfl, ?_, ?_, ?_, ?_, ?_, (b1.2.1 3 rfl 5).trans l5, (b1.2.1 3 rfl 6).trans l6, (b1.2.1 3 rfl 7).trans l7⟩
    · rw [rr]; exact ⟨b1.K 25 rfl, b1.L 25 rfl (by decide), fun i hi => (b1.2.1 25 rfl i).trans (g1 i hi)⟩
    · rw [rr]; exact ⟨b1.K 31 rfl, b1.L 31 rfl (by decide), fun i hi => (b1.2.1 31 rfl i).trans (g2 i hi)⟩
    · rw [rr]; exact ⟨b1.K 32 rfl, b1.L 32 rfl (by decide), fun i hi => (b1.2.1 32 rfl i).trans (l32 i hi).1⟩
    · rw [rr]; exact ⟨b1.K 33 rfl, b1.L 33 rfl (by decide), fun i hi => (b1.2.1 33 rfl i).trans (l32 i hi).2⟩
    · rw [rr]; exact ⟨b1.K 34 rfl, b1.L 34 rfl (by decide), fun i hi => (b1.2.1 34 rfl i).trans (l34 hw i hi)⟩
end CLAY2
