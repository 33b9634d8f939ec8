/-! the class: a line is laid -/
def LC (L : LySt) (φ : Nat → Nat → Int32) : Prop :=
  φ 3 5 = nI L.1.1 ∧ φ 3 6 = nI L.1.2.1 ∧ φ 3 7 = nI L.1.2.2.1 ∧ φ 3 8 = b01 L.1.2.2.2 ∧ (∀ l, l < L.1.1 → φ 32 l = nI (L.2.2.1 l) ∧ φ 33 l = nI (L.2.2.2.1 (l + 1))) ∧ (L.1.2.2.2 = false → ∀ p, p < L.1.2.2.1 → φ 34 p = L.2.2.2.2 p)
theorem gc_pos (B : Nat) : 0 < gc B := by
  unfold gc
  split <;> omega
theorem gc_if {B : Nat} (h : B < 2 ^ 31) : (if nI B < 1 then 1 else nI B) = nI (gc B) := by
  unfold gc
  by_cases e : B = 0
  · rw [if_pos e, if_pos (show nI B < 1 from (nI_ltI (b := 1) h (by decide)).mpr (by omega))]; rfl
  · rw [if_neg e, if_neg (show ¬ nI B < 1 from fun z => by have := (nI_ltI (b := 1) h (by decide)).mp z; omega)]
section CLINE
variable {h0 h : Hp} {y : Nat} {φ : Nat → Nat → Int32} {K : Hp → Prop}
theorem k_al97 (b : LB h0 y φ h) {tx : Nat → Int32} {meas : Int32} {a e : Nat} {L : LySt} (hl : L.1.1 ≤ 29) (hB : cB tx a (e - a) < 2 ^ 31) (hg : L.1.2.2.1 + gc (cB tx a (e - a)) ≤ 30) (hFG : 0 < L.1.1 → L.2.2.2.1 L.1.1 = L.1.2.2.1)
    (h5 : φ 3 5 = nI L.1.1) (h6 : φ 3 6 = nI (L.1.2.1 + cL tx a (e - a))) (h7 : φ 3 7 = nI L.1.2.2.1) (h8 : φ 3 8 = b01 L.1.2.2.2) (h32 : ∀ l, l < L.1.1 → φ 32 l = nI (L.2.2.1 l) ∧ φ 33 l = nI (L.2.2.2.1 (l + 1))) (h34 : L.1.2.2.2 = false → ∀ p, p < L.1.2.2.1 → φ 34 p = L.2.2.2.2 p)
    (kk : ∀ h1 φ1, LB h0 y φ1 h1 → φ1 25 = φ 25 → φ1 31 = φ 31 → LC (lyL tx meas a e L) φ1 → K h1) : V_X2_addLine_97 K y (nI e) (meas - sW tx a (e - a)) (nI (cB tx a (e - a))) h := by
  have go : ∀ φ2 h2, LB h0 y φ2 h2 → (∀ k, k ≠ 3 → φ2 k = φ k) → (∀ i, i ≠ 8 → φ2 3 i = φ 3 i) → φ2 3 8 = b01 (L.1.2.2.2 || decide (meas - sW tx a (e - a) < nI (cB tx a (e - a)))) → V_X2_addLine_109 K y (nI e) (meas - sW tx a (e - a)) (nI (cB tx a (e - a))) h2 := by
    intro φ2 h2 b2 f1 f2 f8
    unfold V_X2_addLine_109 V_X2_addLine_167
    rw [gc_if hB]
    refine ⟨b2.K 3 rfl, k_addGaps b2 _ (gc_pos _) hg (by rw [f2 7 (by decide)]; exact h7) (fun h3 φ3 b3 g1 g2 g7 g34 => ?_)⟩
    have e5 : φ3 3 5 = nI L.1.1 := by rw [g2 5 (by decide), f2 5 (by decide)]; exact h5
    simp only [b3.s, e5, ix_nI (show L.1.1 < 2 ^ 31 by omega), show vp_in (nI L.1.1) 30 from vin (by omega) (by omega), true_and]
    rw [c30 (by omega)]
    refine ⟨fun z => absurd z (by omega), fun _ h4 e4 => ?_⟩
    have b4 := b3.put 32 rfl e4
    simp only [b4.s, up_f (show (3 : Nat) ≠ 32 by decide), e5, ix_nI (show L.1.1 < 2 ^ 31 by omega), show vp_in (nI L.1.1) 30 from vin (by omega) (by omega), true_and]
    intro h5' e5'
    have b5 := b4.put 33 rfl e5'
    simp only [b5.s, up_f (show (3 : Nat) ≠ 33 by decide), up_f (show (3 : Nat) ≠ 32 by decide), e5, true_and, nI_1]
    intro h6' e6'
    have b6 := b5.put 3 rfl e6'
    refine kk h6' _ b6 ?_ ?_ ⟨up_s _ _ _ _, ?_, ?_, ?_, fun l hl' => ⟨?_, ?_⟩, fun hw p hp => ?_⟩
    · funext i; rw [up_f (by decide), up_f (by decide), up_f (by decide), g1 25 (by decide) (by decide), f1 25 (by decide)]
    · funext i; rw [up_f (by decide), up_f (by decide), up_f (by decide), g1 31 (by decide) (by decide), f1 31 (by decide)]
    · rw [up_i (by decide), up_f (by decide), up_f (by decide), g2 6 (by decide), f2 6 (by decide)]; exact h6
    · rw [up_i (by decide), up_f (by decide), up_f (by decide)]; exact g7
    · rw [up_i (by decide), up_f (by decide), up_f (by decide), g2 8 (by decide)]; exact f8
    · have hl'' : l < L.1.1 + 1 := hl'
      rw [up_f (by decide), up_f (by decide)]
      show up φ3 32 L.1.1 (nI e) 32 l = nI (if l = L.1.1 then e else L.2.2.1 l)
      by_cases z : l = L.1.1
      · rw [z, up_s, if_pos rfl]
      · rw [up_i z, if_neg z, g1 32 (by decide) (by decide), f1 32 (by decide)]; exact (h32 l (by omega)).1
    · have hl'' : l < L.1.1 + 1 := hl'
      rw [up_f (by decide)]
      show up (up φ3 32 L.1.1 (nI e)) 33 L.1.1 (φ3 3 7) 33 l = nI (if l + 1 = L.1.1 + 1 then L.1.2.2.1 + gc (cB tx a (e - a)) else if l + 1 = L.1.1 then L.1.2.2.1 else L.2.2.2.1 (l + 1))
      by_cases z : l = L.1.1
      · rw [z, up_s, if_pos rfl]; exact g7
      · rw [up_i z, up_f (by decide), if_neg (by omega), g1 33 (by decide) (by decide), f1 33 (by decide), (h32 l (by omega)).2]
        by_cases z2 : l + 1 = L.1.1
        · rw [if_pos z2, z2, hFG (by omega)]
        · rw [if_neg z2]
    · have hp' : p < L.1.2.2.1 + gc (cB tx a (e - a)) := hp
      have hw' : (L.1.2.2.2 || decide (meas - sW tx a (e - a) < nI (cB tx a (e - a)))) = false := hw
      rw [Bool.or_eq_false_iff] at hw'
      have w2 : ¬ meas - sW tx a (e - a) < nI (cB tx a (e - a)) := of_decide_eq_false hw'.2
      have w3 : ¬ meas - sW tx a (e - a) < 0 := fun z => w2 (Int32.lt_of_lt_of_le z (c0 hB))
      rw [up_f (by decide), up_f (by decide), up_f (by decide), g34 p hp', if_neg w3]
      show _ = if L.1.2.2.1 ≤ p ∧ p < L.1.2.2.1 + gc (cB tx a (e - a)) then gw (meas - sW tx a (e - a)) (gc (cB tx a (e - a))) (p - L.1.2.2.1) else L.2.2.2.2 p
      by_cases z : L.1.2.2.1 ≤ p
      · rw [if_pos z, if_pos ⟨z, hp'⟩]
      · rw [if_neg z, if_neg (fun q => z q.1), f1 34 (by decide)]; exact h34 hw'.1 p (by omega)
  unfold V_X2_addLine_97
  refine ⟨fun z => go φ h b (fun _ _ => rfl) (fun _ _ => rfl) ?_, fun z => ⟨b.K 3 rfl, Or.inr rfl, fun h2 e2 => ?_⟩⟩
  · rw [h8, decide_eq_false (Int32.not_lt.mpr z), Bool.or_false]
  · have b2 := b.put 3 rfl e2
    refine go _ h2 b2 (fun k hk => by funext i; rw [up_f hk]) (fun i hi => by rw [up_i hi]) ?_
    rw [up_s, decide_eq_true (Int32.not_le.mp z), Bool.or_true]; rfl
theorem k_addLine (b : LB h0 y φ h) {tx : Nat → Int32} {meas : Int32} {a e : Nat} {L : LySt} (hL : LC L φ) (hae : a ≤ e) (he : e ≤ 60) (htx : ∀ i, a ≤ i → i < e → φ 25 i = tx i) (hl : L.1.1 ≤ 29) (hg : L.1.2.2.1 + gc (cB tx a (e - a)) ≤ 30) (hFG : 0 < L.1.1 → L.2.2.2.1 L.1.1 = L.1.2.2.1) (hnd : ∀ s, s < 26 → φ 31 s = nd tx s a)
    (kk : ∀ h1 φ1, LB h0 y φ1 h1 → φ1 25 = φ 25 → (∀ s, s < 26 → φ1 31 s = nd tx s e) → LC (lyL tx meas a e L) φ1 → K h1) : V_X2_addLine y (nI a) (nI e) meas h K := by
  have key : ∀ (d i n : Nat) (φ1 : Nat → Nat → Int32) (h1 : Hp), i + d = e → a ≤ i → d < n → LB h0 y φ1 h1 → (∀ k, k ≠ 3 → k ≠ 31 → φ1 k = φ k) → (∀ w, w ≠ 6 → φ1 3 w = φ 3 w) → φ1 3 6 = nI (L.1.2.1 + cL tx a (i - a)) → (∀ s, s < 26 → φ1 31 s = nd tx s i) → V_X2_addLine_9 K n y (nI e) (meas - sW tx a (i - a)) (nI (cB tx a (i - a))) (nI i) h1 := by
    intro d
    induction d with
    | zero =>
      intro i n φ1 h1 p1 p0 p2 b1 f1 f2 f6 g
      obtain ⟨n, rfl⟩ : ∃ k, n = k + 1 := ⟨n - 1, by omega⟩
      obtain rfl : i = e := by omega
      obtain ⟨l5, l6, l7, l8, l32, l34⟩ := hL
      have hcB := cB_le tx a (i - a)
      unfold V_X2_addLine_9
      rw [nle (by omega) (by omega)]
      refine ⟨fun _ => ?_, fun q => absurd (Nat.le_refl _) q⟩
      refine k_al97 b1 hl (by omega) hg hFG (by rw [f2 5 (by decide)]; exact l5) f6 (by rw [f2 7 (by decide)]; exact l7) (by rw [f2 8 (by decide)]; exact l8) (by rw [f1 32 (by decide) (by decide), f1 33 (by decide) (by decide)]; exact l32) (by rw [f1 34 (by decide) (by decide)]; exact l34) (fun h2 φ2 b2 r1 r2 r3 => ?_)
      refine kk h2 φ2 b2 (by rw [r1, f1 25 (by decide) (by decide)]) (fun s hs => by rw [r2]; exact g s hs) r3
    | succ d ih =>
      intro i n φ1 h1 p1 p0 p2 b1 f1 f2 f6 g
      obtain ⟨n, rfl⟩ : ∃ k, n = k + 1 := ⟨n - 1, by omega⟩
      have ev : φ1 25 i = tx i := by rw [f1 25 (by decide) (by decide)]; exact htx i p0 (by omega)
      have es : i + 1 - a = (i - a) + 1 := by omega
      have ei : a + (i - a) = i := by omega
      unfold V_X2_addLine_9 V_X2_addLine_91
      rw [nle (by omega) (by omega)]
      simp only [b1.s, ix_nI (show i < 2 ^ 31 by omega), show vp_in (nI i) 60 from vin (by omega) (by omega), ev, true_and, nI_1]
      rw [nle (by decide) (by omega), k_isLetter]
      refine ⟨fun q => absurd q (by omega), fun _ => ⟨fun q => absurd q (by omega), fun _ => ?_⟩⟩
      have go := fun φ2 h2 => ih (i + 1) n φ2 h2 (by omega) (by omega) (by omega)
      rw [es] at go
      by_cases hlt : isL (tx i)
      · rw [if_neg hlt]
        obtain ⟨s, hs, e1, e2⟩ := isL_of hlt
        have eW : sW tx a (i - a + 1) = sW tx a (i - a) + wd s := by
          show sW tx a (i - a) + (if isL (tx (a + (i - a))) then lw (tx (a + (i - a))) else 0) = _
          rw [ei, if_pos hlt]
          unfold lw
          rw [e1, ix_nI (by omega)]
        have eB : cB tx a (i - a + 1) = cB tx a (i - a) := by
          show cB tx a (i - a) + (if isL (tx (a + (i - a))) then 0 else 1) = _
          rw [ei, if_pos hlt]; rfl
        have eL : cL tx a (i - a + 1) = cL tx a (i - a) + 1 := by
          show cL tx a (i - a) + (if isL (tx (a + (i - a))) then 1 else 0) = _
          rw [ei, if_pos hlt]
        rw [eW, eB, eL] at go
        refine ⟨fun q => absurd q ne01, fun _ => ?_⟩
        simp only [b1.s, show vp_in (nI i) 60 from vin (by omega) (by omega), ix_nI (show i < 2 ^ 31 by omega), ev, e1, true_and]
        rw [k_width (by omega)]
        simp only [b1.s, show vp_in (nI i) 60 from vin (by omega) (by omega), ix_nI (show i < 2 ^ 31 by omega), ix_nI (show s < 2 ^ 31 by omega), show vp_in (nI s) 26 from vin (by omega) (by omega), ev, e1, true_and]
        intro h2 z2
        have b2 := b1.put 31 rfl z2
        simp only [b2.s, up_f (show (3 : Nat) ≠ 31 by decide), true_and]
        intro h3 z3
        have b3 := b2.put 3 rfl z3
        rw [i_sub_add]
        refine go _ h3 b3 (fun k a c => by rw [← f1 k a c]; funext z; rw [up_f a, up_f c]) (fun w hw => by rw [up_i hw, up_f (by decide)]; exact f2 w hw) ?_ (fun t ht => ?_)
        · rw [up_s, f6, nI_1]; rfl
        · rw [up_f (by decide)]
          show _ = nd tx t i + (if isL (tx i) ∧ ix (tx i - 97) = t then 1 else 0)
          rw [e1, ix_nI (by omega)]
          by_cases z : t = s
          · rw [z, up_s, if_pos ⟨hlt, rfl⟩, g s hs]
          · rw [up_i z, if_neg (fun q => z q.2.symm), Int32.add_zero]; exact g t ht
      · rw [if_pos (Classical.not_not.mp hlt)]
        have eW : sW tx a (i - a + 1) = sW tx a (i - a) := by
          show sW tx a (i - a) + (if isL (tx (a + (i - a))) then lw (tx (a + (i - a))) else 0) = _
          rw [ei, if_neg hlt, Int32.add_zero]
        have eB : cB tx a (i - a + 1) = cB tx a (i - a) + 1 := by
          show cB tx a (i - a) + (if isL (tx (a + (i - a))) then 0 else 1) = _
          rw [ei, if_neg hlt]
        have eL : cL tx a (i - a + 1) = cL tx a (i - a) := by
          show cL tx a (i - a) + (if isL (tx (a + (i - a))) then 1 else 0) = _
          rw [ei, if_neg hlt]; rfl
        rw [eW, eB, eL] at go
        refine ⟨fun _ => go φ1 h1 b1 f1 f2 f6 (fun t ht => ?_), fun q => absurd rfl q⟩
        show _ = nd tx t i + (if isL (tx i) ∧ ix (tx i - 97) = t then 1 else 0)
        rw [if_neg (fun q => hlt q.1), Int32.add_zero]; exact g t ht
  have := key (e - a) a (e - a + 1) φ h (by omega) (Nat.le_refl a) (Nat.lt_succ_self _) b (fun _ _ _ => rfl) (fun _ _ => rfl) (by rw [Nat.sub_self]; exact hL.2.1) hnd
  rw [Nat.sub_self, show sW tx a 0 = 0 from rfl, Int32.sub_zero] at this
  exact ⟨e - a + 1, this⟩
end CLINE
