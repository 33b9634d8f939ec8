/-! the class: needs and what is available -/
theorem xk_im {k : Nat} (hk : xk k = true) : ¬ im k := by
  unfold xk at hk
  simp only [Bool.or_eq_true, beq_iff_eq] at hk
  unfold im
  omega
theorem XB.fr0 {h0 h : Hp} {x q : Nat} {φ : Nat → Nat → Int32} (y : XB h0 x q φ h) (hq : ¬ im (hK h0 q)) : FR h0 h :=
  y.fr (FR.rf h0) hq (fun k hk => by rw [y.1.1 k hk]; exact xk_im hk)
def avF (φ : Nat → Nat → Int32) (ρ : Row) (j s : Nat) : Int32 := sm 6 (fun c => φ 35 (29 * c + s)) + sm 6 (fun c => fm ρ j c s)
def ndC (ρ : Row) (j : Nat) (A B : Int32) (s : Nat) : Int32 := if s < 26 then nd (jtx ρ j) s (jlen ρ j) else if s = 26 then (fl (jL ρ j).2.2.2.2 A B (jL ρ j).1.2.2.1).1 else if s = 27 then (fl (jL ρ j).2.2.2.2 A B (jL ρ j).1.2.2.1).2.1 else (fl (jL ρ j).2.2.2.2 A B (jL ρ j).1.2.2.1).2.2
section CRECK
variable {h0 : Hp} {x q : Nat} {K : Hp → Prop} {ρ : Row} {j c : Nat}
theorem k_reck91 (hq : ¬ im (hK h0 q)) (J : JobR h0 ρ j c) (hF : FF (jtx ρ j) (jlen ρ j)) (A B : Int32) (φ0 : Nat → Nat → Int32)
    (hK : ∀ h1 φ1, XB h0 x q φ1 h1 → (∀ k, k ≠ 5 → k ≠ 37 → φ1 k = φ0 k) → (∀ s, s < 26 → φ1 37 s = φ0 37 s) → φ1 37 26 = (fl (jL ρ j).2.2.2.2 A B (jL ρ j).1.2.2.1).1 → φ1 37 27 = (fl (jL ρ j).2.2.2.2 A B (jL ρ j).1.2.2.1).2.1 → φ1 37 28 = (fl (jL ρ j).2.2.2.2 A B (jL ρ j).1.2.2.1).2.2 → K h1) :
    ∀ (d g n : Nat) (φ : Nat → Nat → Int32) (h : Hp), g + d = (jL ρ j).1.2.2.1 → d < n → XB h0 x q φ h → (∀ k, k ≠ 5 → φ k = φ0 k) → SpR (jL ρ j).2.2.2.2 A B g (φ 5) → V_X6_reckon_91 K n x (hR h0 (hR h0 c 0) 3) (nI g) h := by
  have hng : (jL ρ j).1.2.2.1 ≤ 30 := (lay_bound (meas := jb ρ j 1) hF).2
  intro d
  induction d with
  | zero =>
    intro g n φ h h1 h2 y f1 sp
    obtain ⟨n, rfl⟩ : ∃ k, n = k + 1 := ⟨n - 1, by omega⟩
    have L : LayR h (hR h0 (hR h0 c 0) 3) (jtx ρ j) (jb ρ j 1) (jlen ρ j) := J.2.1.2.2.2.2.fr (y.fr0 hq)
    unfold V_X6_reckon_91
    simp only [L.1, L.2.2.2.2.2.2.2.2, show (lay (jtx ρ j) (jb ρ j 1) (jlen ρ j)).1.2.2.1 = (jL ρ j).1.2.2.1 from rfl, true_and]
    rw [nle (by omega) (by omega)]
    refine ⟨fun _ => ?_, fun z => absurd (by omega) z⟩
    obtain ⟨s1, s2, s3, s4, s5⟩ := sp
    obtain rfl : g = (jL ρ j).1.2.2.1 := by omega
    simp only [y.s, LT29, true_and, s3]
    intro h3 e3
    have y3 := y.put 37 (Or.inl rfl) e3
    simp only [y3.s, LT29, true_and, up_f (show (5 : Nat) ≠ 37 by decide), s4]
    intro h4 e4
    have y4 := y3.put 37 (Or.inl rfl) e4
    simp only [y4.s, LT29, true_and, up_f (show (5 : Nat) ≠ 37 by decide), s5]
    intro h5 e5
    have y5 := y4.put 37 (Or.inl rfl) e5
    refine hK h5 _ y5 (fun k a b => ?_) (fun s hs => ?_) ?_ ?_ ?_
    · rw [← f1 k a]; funext i; rw [up_f b, up_f b, up_f b]
    · rw [up_i (by omega), up_i (by omega), up_i (by omega), f1 37 (by decide)]
    · rw [up_i (by decide), up_i (by decide), up_s]
    · rw [up_i (by decide), up_s]
    · rw [up_s]
  | succ d ih =>
    intro g n φ h h1 h2 y f1 sp
    obtain ⟨n, rfl⟩ : ∃ k, n = k + 1 := ⟨n - 1, by omega⟩
    have L : LayR h (hR h0 (hR h0 c 0) 3) (jtx ρ j) (jb ρ j 1) (jlen ρ j) := J.2.1.2.2.2.2.fr (y.fr0 hq)
    unfold V_X6_reckon_91
    simp only [L.1, L.2.2.2.2.2.2.2.2, show (lay (jtx ρ j) (jb ρ j 1) (jlen ρ j)).1.2.2.1 = (jL ρ j).1.2.2.1 from rfl, true_and]
    rw [nle (by omega) (by omega)]
    refine ⟨fun z => absurd z (by omega), fun _ => ⟨y.s.2.1.1, ?_⟩⟩
    rw [k_gapWidth L hF (show g < (jL ρ j).1.2.2.1 by omega), nI_1, y.s.1]
    refine ⟨y.K 5 rfl, k_fill (W := (jL ρ j).2.2.2.2) y sp (fun h3 φ3 y3 p1 p2 _ _ _ => ih (g + 1) n φ3 h3 (by omega) (by omega) y3 (fun k hk => (p1 k hk).trans (f1 k hk)) p2)⟩
theorem k_reck44 (hq : ¬ im (hK h0 q)) (J : JobR h0 ρ j c) (hF : FF (jtx ρ j) (jlen ρ j)) (φ0 : Nat → Nat → Int32)
    (hK : ∀ h1 φ1, XB h0 x q φ1 h1 → (∀ k, k ≠ 5 → k ≠ 37 → φ1 k = φ0 k) → (∀ s, s < 29 → φ1 37 s = ndC ρ j (φ0 38 26) (φ0 38 27) s) → K h1) :
    ∀ (d s n : Nat) (φ : Nat → Nat → Int32) (h : Hp), s + d = 26 → d < n → XB h0 x q φ h → (∀ k, k ≠ 37 → φ k = φ0 k) → (∀ i, i < s → φ 37 i = nd (jtx ρ j) i (jlen ρ j)) → V_X6_reckon_44 K n x (hR h0 (hR h0 c 0) 3) (nI s) h := by
  intro d
  induction d with
  | zero =>
    intro s n φ h h1 h2 y f1 g1
    obtain ⟨n, rfl⟩ : ∃ k, n = k + 1 := ⟨n - 1, by omega⟩
    obtain rfl : s = 26 := by omega
    refine ⟨fun _ => ?_, fun z => absurd (by decide) z⟩
    simp only [y.s, LT29, true_and]
    rw [f1 38 (by decide)]
    refine k_begin y _ _ (jL ρ j).2.2.2.2 (fun h3 φ3 y3 p1 p2 => ⟨(jL ρ j).1.2.2.1 + 1, k_reck91 hq J hF _ _ φ3 (fun h4 φ4 y4 r1 r2 r3 r4 r5 => hK h4 φ4 y4 (fun k a b => ?_) (fun s hs => ?_)) _ 0 _ φ3 h3 (Nat.zero_add _) (Nat.lt_succ_self _) y3 (fun _ _ => rfl) p2⟩)
    · rw [r1 k a b, p1 k a, f1 k b]
    · unfold ndC
      by_cases e : s < 26
      · rw [if_pos e, r2 s e, p1 37 (by decide)]; exact g1 s e
      · rw [if_neg e]
        by_cases e26 : s = 26
        · rw [if_pos e26, e26]; exact r3
        · rw [if_neg e26]
          by_cases e27 : s = 27
          · rw [if_pos e27, e27]; exact r4
          · rw [if_neg e27, show s = 28 by omega]; exact r5
  | succ d ih =>
    intro s n φ h h1 h2 y f1 g1
    obtain ⟨n, rfl⟩ : ∃ k, n = k + 1 := ⟨n - 1, by omega⟩
    have L : LayR h (hR h0 (hR h0 c 0) 3) (jtx ρ j) (jb ρ j 1) (jlen ρ j) := J.2.1.2.2.2.2.fr (y.fr0 hq)
    obtain ⟨l1, -, ⟨b1, b2, b3⟩, -⟩ := L
    rw [y.s.1] at b1 b2 b3
    unfold V_X6_reckon_44
    rw [c26 (by omega)]
    simp only [y.s, l1, b1, b2, nI_1, ix_nI (show s < 2 ^ 31 by omega), show vp_in (nI s) 26 from vin (by omega) (by omega), show vp_in (nI s) 29 from vin (by omega) (by omega), b3 s (by omega), true_and]
    refine ⟨fun z => absurd z (by omega), fun _ h3 e3 => ih (s + 1) n _ h3 (by omega) (by omega) (y.put 37 (Or.inl rfl) e3) (fun k hk => ?_) (fun i hi => ?_)⟩
    · rw [← f1 k hk]; funext i; rw [up_f hk]
    · by_cases e : i = s
      · rw [e, up_s]
      · rw [up_i e]; exact g1 i (by omega)
theorem k_reckon {h : Hp} {φ : Nat → Nat → Int32} (y : XB h0 x q φ h) (hq : ¬ im (hK h0 q)) (J : JobR h0 ρ j c) (hF : FF (jtx ρ j) (jlen ρ j))
    (hK : ∀ h1 φ1, XB h0 x q φ1 h1 → (∀ k, k ≠ 5 → k ≠ 37 → k ≠ 38 → φ1 k = φ k) → (∀ s, s < 29 → φ1 38 s = avF φ ρ j s) → (∀ s, s < 29 → φ1 37 s = ndC ρ j (avF φ ρ j 26) (avF φ ρ j 27) s) → K h1) : V_X6_reckon x c h K := by
  have key : ∀ (d s n : Nat) (φ1 : Nat → Nat → Int32) (h1 : Hp), s + d = 29 → d < n → XB h0 x q φ1 h1 → (∀ k, k ≠ 38 → φ1 k = φ k) → (∀ i, i < s → φ1 38 i = avF φ ρ j i) → V_X6_reckon_10 K n x c (hR h0 (hR h0 c 0) 3) (nI s) h1 := by
    intro d
    induction d with
    | zero =>
      intro s n φ1 hh h1 h2 y1 f1 g1
      obtain ⟨n, rfl⟩ : ∃ k, n = k + 1 := ⟨n - 1, by omega⟩
      obtain rfl : s = 29 := by omega
      refine ⟨fun _ => ⟨27, k_reck44 hq J hF φ1 (fun h3 φ3 y3 p1 p2 => hK h3 φ3 y3 (fun k a b d => (p1 k a b).trans (f1 k d)) (fun s hs => ?_) (fun s hs => ?_)) 26 0 27 φ1 hh rfl (by decide) y1 (fun _ _ => rfl) (fun i hi => absurd hi (Nat.not_lt_zero _))⟩, fun z => absurd (by decide) z⟩
      · rw [p1 38 (by decide) (by decide)]; exact g1 s hs
      · rw [p2 s hs, g1 26 (by decide), g1 27 (by decide)]
    | succ d ih =>
      intro s n φ1 hh h1 h2 y1 f1 g1
      obtain ⟨n, rfl⟩ : ∃ k, n = k + 1 := ⟨n - 1, by omega⟩
      have Jh : JobR hh ρ j c := J.fr (y1.fr0 hq)
      unfold V_X6_reckon_10
      rw [c29 (by omega), y1.s.1]
      refine ⟨fun z => absurd z (by omega), fun _ => ⟨y1.K 7 rfl, y1.K 7 rfl, y1.K 6 rfl, k_heldInAll y1 (by omega) ⟨Jh.1, k_takenInAll Jh (by omega) ?_⟩⟩⟩
      rw [f1 35 (by decide)]
      simp only [y1.s, nI_1, ix_nI (show s < 2 ^ 31 by omega), show vp_in (nI s) 29 from vin (by omega) (by omega), true_and]
      intro h3 e3
      refine ih (s + 1) n _ h3 (by omega) (by omega) (y1.put 38 (Or.inl rfl) e3) (fun k hk => ?_) (fun i hi => ?_)
      · rw [← f1 k hk]; funext i; rw [up_f hk]
      · by_cases e : i = s
        · rw [e, up_s]; rfl
        · rw [up_i e]; exact g1 i (by omega)
  have Jh : JobR h ρ j c := J.fr (y.fr0 hq)
  unfold V_X6_reckon
  refine ⟨Jh.1, Jh.2.1.1, ?_⟩
  rw [y.s.1, y.s.1]
  exact ⟨30, key 29 0 30 φ h rfl (by decide) y (fun _ _ => rfl) (fun i hi => absurd hi (Nat.not_lt_zero _))⟩
theorem k_missingOf {h : Hp} {φ : Nat → Nat → Int32} {K : Int32 → Hp → Prop} (y : XB h0 x q φ h) {s : Nat} (hs : s < 29) : V_X6_missingOf x (nI s) h K ↔ K (if 0 < φ 37 s - φ 38 s then φ 37 s - φ 38 s else 0) h := by
  unfold V_X6_missingOf
  simp only [y.s, ix_nI (show s < 2 ^ 31 by omega), show vp_in (nI s) 29 from vin (by omega) (by omega), true_and]
end CRECK
