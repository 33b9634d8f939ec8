/-! the class: the needed pieces are taken, the whole walk -/
section CTAKE2
variable {h0 : Hp} {x q : Nat} {ρ : Row} {hm : Nat} {K : Nat → Hp → Prop}
theorem k_tn39 (hq : hK h0 q = 20) (hl : hL h0 q = 174) (hm6 : hm < 6) (w : Nat → Int32) (φ0 : Nat → Nat → Int32) {S : Nat} (hS : S < 29) {C8 : Nat → Int32 → Nat → Int32 → Hp → Prop}
    (hC : ∀ h1 φ1, XB h0 x q φ1 h1 → TnR ρ hm w φ0 (fun c s => s < S + 1) φ1 → C8 x (nI hm) q (nI (S + 1)) h1) :
    ∀ (d C n : Nat) (φ : Nat → Nat → Int32) (h : Hp), C + d = 6 → d < n → XB h0 x q φ h → TnR ρ hm w φ0 (fun c s => s < S ∨ (s = S ∧ (c = hm ∨ c < C))) φ → V_X6_takeNeeded_39 K C8 n x (nI hm) q (nI S) (lf ρ hm S (w S) C) (nI C) h := by
  intro d
  induction d with
  | zero =>
    intro C n φ h h1 h2 y g
    obtain ⟨n, rfl⟩ : ∃ k, n = k + 1 := ⟨n - 1, by omega⟩
    obtain rfl : C = 6 := by omega
    unfold V_X6_takeNeeded_39
    rw [nI_1]
    exact ⟨fun _ => hC h φ y (g.iff (fun c s a b => by omega)), fun z => absurd (by decide) z⟩
  | succ d ih =>
    intro C n φ h h1 h2 y g
    obtain ⟨n, rfl⟩ : ∃ k, n = k + 1 := ⟨n - 1, by omega⟩
    unfold V_X6_takeNeeded_39 V_X6_takeNeeded_67
    simp only [nI_1]
    rw [c6 (by omega), nI_eq (by omega) (by omega)]
    refine ⟨fun z => absurd z (by omega), fun _ => ⟨fun z => ?_, fun z => ?_⟩⟩
    · have := ih (C + 1) n φ h (by omega) (by omega) y (g.iff (fun c s a b => by omega))
      rw [show lf ρ hm S (w S) (C + 1) = lf ρ hm S (w S) C - 0 from congrArg (fun v => lf ρ hm S (w S) C - v) (if_pos z), Int32.sub_zero] at this
      exact this
    · have et : tk ρ hm S (w S) C = lst (lf ρ hm S (w S) C) (ρ (8 + 29 * C + S)) := if_neg z
      have hnd : ¬ (S < S ∨ (S = S ∧ (C = hm ∨ C < C))) := by omega
      refine ⟨y.K 7 rfl, k_takePieces y hq hl (by omega) hS _ (t := tk ρ hm S (w S) C) ?_ (fun h3 y3 => ?_)⟩
      · rw [((g.2 C S (by omega) hS).2 hnd).1, et]
      · have := ih (C + 1) n _ h3 (by omega) (by omega) y3 (g.step (by omega) hS hnd (fun c s a b => by omega))
        rw [show lf ρ hm S (w S) (C + 1) = lf ρ hm S (w S) C - tk ρ hm S (w S) C from congrArg (fun v => lf ρ hm S (w S) C - v) ((if_neg z).trans et.symm)] at this
        exact this
theorem k_tn8 (hq : hK h0 q = 20) (hl : hL h0 q = 174) (hm6 : hm < 6) (φ0 : Nat → Nat → Int32)
    (hC : ∀ h1 φ1, XB h0 x q φ1 h1 → TnR ρ hm (φ0 37) φ0 (fun _ _ => True) φ1 → K q h1) :
    ∀ (d S n : Nat) (φ : Nat → Nat → Int32) (h : Hp), S + d = 29 → d < n → XB h0 x q φ h → TnR ρ hm (φ0 37) φ0 (fun _ s => s < S) φ → V_X6_takeNeeded_8 K n x (nI hm) q (nI S) h := by
  intro d
  induction d with
  | zero =>
    intro S n φ h h1 h2 y g
    obtain ⟨n, rfl⟩ : ∃ k, n = k + 1 := ⟨n - 1, by omega⟩
    obtain rfl : S = 29 := by omega
    exact ⟨fun _ => hC h φ y (g.iff (fun c s a b => ⟨fun _ => b, fun _ => trivial⟩)), fun z => absurd (by decide) z⟩
  | succ d ih =>
    intro S n φ h h1 h2 y g
    obtain ⟨n, rfl⟩ : ∃ k, n = k + 1 := ⟨n - 1, by omega⟩
    unfold V_X6_takeNeeded_8
    rw [c29 (by omega)]
    simp only [y.s, ix_nI (show S < 2 ^ 31 by omega), show vp_in (nI S) 29 from vin (by omega) (by omega), true_and]
    refine ⟨fun z => absurd z (by omega), fun _ => ?_⟩
    rw [g.1 37 (by decide) (by decide)]
    have hnd : ¬ S < S := Nat.lt_irrefl _
    have et : tk ρ hm S (φ0 37 S) hm = tkh ρ hm S (φ0 37 S) := if_pos rfl
    refine k_takePieces y hq hl hm6 (by omega) _ (t := tk ρ hm S (φ0 37 S) hm) ?_ (fun h3 y3 => ?_)
    · rw [((g.2 hm S hm6 (by omega)).2 hnd).1, et]; rfl
    · refine ⟨7, ?_⟩
      have := k_tn39 (K := K) (C8 := V_X6_takeNeeded_8 K n) hq hl hm6 (φ0 37) φ0 (show S < 29 by omega) (fun h4 φ4 y4 g4 => ih (S + 1) n φ4 h4 (by omega) (by omega) y4 g4) 6 0 7 _ h3 rfl (by decide) y3 ((g.step hm6 (by omega) hnd (fun c s a b => Iff.rfl)).iff (fun c s a b => by omega))
      rw [show lf ρ hm S (φ0 37 S) 0 = φ0 37 S - tk ρ hm S (φ0 37 S) hm from congrArg (fun v => φ0 37 S - v) et.symm] at this
      exact this
theorem k_takeNeeded {h : Hp} {φ : Nat → Nat → Int32} (y : XB h0 x q φ h) (hm6 : hm < 6) (hρ : ∀ c s, c < 6 → s < 29 → φ 35 (29 * c + s) = ρ (8 + 29 * c + s))
    (kk : ∀ q1 h1 h2 φ2, q1 ≠ 0 → hK h q1 = 0 → h1 = nN h q1 20 174 → XB h1 x q1 φ2 h2 → (∀ k, xk k = true → k ≠ 35 → φ2 k = φ k) → (∀ c s, c < 6 → s < 29 → φ2 35 (29 * c + s) = ρ (8 + 29 * c + s) - tk ρ hm s (φ 37 s) c ∧ φ2 20 (29 * c + s) = tk ρ hm s (φ 37 s) c) → K q1 h2) : V_X6_takeNeeded x (nI hm) h K := by
  intro q1 n1 n2 h1 e1
  obtain ⟨φ1, y1, p1, p2⟩ := y.nw n2 (k1 := 20) (n1 := 174) q1 (by rw [hK_nN, if_pos rfl]; rfl)
  rw [← e1] at y1 p2
  have h20 : ∀ i, φ1 20 i = 0 := fun i => by rw [p2, e1, hI_nN, if_pos rfl]
  refine ⟨30, k_tn8 (ρ := ρ) (hm := hm) (by rw [e1, hK_nN, if_pos rfl]) (by rw [e1, hL_nN, if_pos rfl]) hm6 φ1 (fun h2 φ2 y2 g => kk q1 h1 h2 φ2 n1 n2 e1 y2 (fun k a b => ?_) (fun c s a b => ?_)) 29 0 30 φ1 h1 rfl (by decide) y1 ⟨fun _ _ _ => rfl, fun c s a b => ⟨fun z => absurd z (Nat.not_lt_zero _), fun _ => ⟨by rw [p1 35 rfl]; exact hρ c s a b, h20 _⟩⟩⟩⟩
  · rw [g.1 k (fun e => by rw [e] at a; cases a) b, p1 k a]
  · have := (g.2 c s a b).1 trivial
    rw [p1 37 rfl] at this
    exact this
end CTAKE2
