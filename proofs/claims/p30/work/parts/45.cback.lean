/-! the class: pieces go back to the cases -/
def GbR (ρ : Row) (j : Nat) (w : Int32) (φ0 : Nat → Nat → Int32) (c0 s0 : Nat) (φ : Nat → Nat → Int32) : Prop :=
  (∀ k, k ≠ 35 → k ≠ 36 → φ k = φ0 k) ∧ (∀ c s, c < 6 → s < 29 → φ 35 (29 * c + s) = if c < c0 ∨ (c = c0 ∧ s < s0) then ρ (8 + 29 * c + s) + back ρ j w c s else ρ (8 + 29 * c + s)) ∧
  ∀ s, s < 29 → φ 36 s = φ0 36 s + sm (if s < s0 then c0 + 1 else c0) (fun c => tobox ρ j w c s)
theorem back_lst (ρ : Row) (j : Nat) (w : Int32) (c s : Nat) : back ρ j w c s = (if 99 - ρ (8 + 29 * c + s) < fm ρ j c s - (if w = 0 then 0 else fm ρ j c s / w) then 99 - ρ (8 + 29 * c + s) else fm ρ j c s - (if w = 0 then 0 else fm ρ j c s / w)) := by
  rw [lst_lt]
  rfl
section CBACK
variable {h0 : Hp} {x q : Nat} {ρ : Row} {j c : Nat} {K : Int32 → Hp → Prop}
theorem k_gb15 (hq : ¬ im (hK h0 q)) (J : JobR h0 ρ j c) (a2 : Nat) (w : Int32) (φ0 : Nat → Nat → Int32) (ha : (a2 = 0 ∧ w = 0) ∨ (a2 ≠ 0 ∧ w = 8)) {C5 : Nat → Nat → Int32 → Int32 → Int32 → Hp → Prop} {a : Int32} {c0 : Nat} (hc : c0 < 6) (A : Int32)
    (hC : ∀ h1 φ1, XB h0 x q φ1 h1 → GbR ρ j w φ0 (c0 + 1) 0 φ1 → C5 x c a (A + sm 29 (fun s => tobox ρ j w c0 s)) (nI (c0 + 1)) h1) (haa : (a = 0 ↔ a2 = 0)) :
    ∀ (d s n : Nat) (φ : Nat → Nat → Int32) (h : Hp), s + d = 29 → d < n → XB h0 x q φ h → GbR ρ j w φ0 c0 s φ → V_X6_giveBack_15 K C5 n x c a (A + sm s (fun s => tobox ρ j w c0 s)) (nI c0) (nI s) h := by
  intro d
  induction d with
  | zero =>
    intro s n φ h h1 h2 y g
    obtain ⟨n, rfl⟩ : ∃ k, n = k + 1 := ⟨n - 1, by omega⟩
    obtain rfl : s = 29 := by omega
    unfold V_X6_giveBack_15
    rw [nI_1]
    refine ⟨fun _ => hC h φ y ⟨g.1, fun c1 s1 a b => ?_, fun s1 b => ?_⟩, fun z => absurd (by decide) z⟩
    · rw [g.2.1 c1 s1 a b]
      by_cases e : c1 < c0 ∨ (c1 = c0 ∧ s1 < 29)
      · rw [if_pos e, if_pos (by omega)]
      · rw [if_neg e, if_neg (by omega)]
    · rw [g.2.2 s1 b, if_pos b, if_neg (Nat.not_lt_zero _)]
  | succ d ih =>
    intro s n φ h h1 h2 y g
    obtain ⟨n, rfl⟩ : ∃ k, n = k + 1 := ⟨n - 1, by omega⟩
    have Jh : JobR h ρ j c := J.fr (y.fr0 hq)
    have go : ∀ v : Int32, v = (if w = 0 then 0 else fm ρ j c0 s / w) → V_X6_giveBack_45 K C5 (V_X6_giveBack_15 K C5 n) x c a (A + sm s (fun s => tobox ρ j w c0 s)) (nI c0) (nI s) (fm ρ j c0 s) v h := by
      intro v hv
      unfold V_X6_giveBack_45
      have e35 : φ 35 (29 * c0 + s) = ρ (8 + 29 * c0 + s) := by rw [g.2.1 c0 s hc (by omega), if_neg (by omega)]
      refine ⟨y.K 7 rfl, ?_⟩
      simp only [y.s, true_and]
      rw [k_held y hc (by omega), e35, hv, ← back_lst]
      refine ⟨y.K 7 rfl, ?_⟩
      simp only [y.s, true_and]
      refine k_put y hc (by omega) _ (fun h3 y3 => ?_)
      simp only [y3.s, ix_nI (show s < 2 ^ 31 by omega), show vp_in (nI s) 29 from vin (by omega) (by omega), true_and, nI_1]
      intro h4 e4
      have y4 := y3.put 36 (Or.inl rfl) e4
      rw [e35] at y4
      have := ih (s + 1) n _ h4 (by omega) (by omega) y4 ⟨fun k a b => ?_, fun c1 s1 a b => ?_, fun s1 b => ?_⟩
      · rw [smS, ← Int32.add_assoc] at this
        exact this
      · rw [← g.1 k a b]; funext i; rw [up_f b, up_f a]
      · rw [up_f (by decide)]
        by_cases e : c1 = c0 ∧ s1 = s
        · obtain ⟨rfl, rfl⟩ := e
          rw [up_s, if_pos (by omega)]
        · rw [up_i (by omega), g.2.1 c1 s1 a b]
          by_cases e2 : c1 < c0 ∨ (c1 = c0 ∧ s1 < s)
          · rw [if_pos e2, if_pos (by omega)]
          · rw [if_neg e2, if_neg (by omega)]
      · by_cases e : s1 = s
        · subst e
          rw [up_s, up_f (by decide), g.2.2 s1 b, if_neg (Nat.lt_irrefl _), if_pos (Nat.lt_succ_self _), smS, Int32.add_assoc]
          rfl
        · rw [up_i e, up_f (by decide), g.2.2 s1 b]
          by_cases e2 : s1 < s
          · rw [if_pos e2, if_pos (by omega)]
          · rw [if_neg e2, if_neg (by omega)]
    unfold V_X6_giveBack_15
    rw [c29 (by omega), k_takenFrom Jh hc (by omega)]
    refine ⟨fun z => absurd z (by omega), fun _ => ⟨Jh.1, fun z => ?_, fun z => ?_⟩⟩
    · refine go 0 ?_
      rcases ha with ⟨-, e⟩ | ⟨e, -⟩
      · rw [if_pos e]
      · exact absurd (haa.mp z) e
    · refine go _ ?_
      rcases ha with ⟨e, -⟩ | ⟨-, e⟩
      · exact absurd (haa.mpr e) z
      · rw [e, if_neg (by decide)]
theorem k_giveBack {h : Hp} {φ : Nat → Nat → Int32} (y : XB h0 x q φ h) (hq : ¬ im (hK h0 q)) (J : JobR h0 ρ j c) (a2 : Nat) (w : Int32) (ha : (a2 = 0 ∧ w = 0) ∨ (a2 ≠ 0 ∧ w = 8)) {a : Int32} (haa : (a = 0 ↔ a2 = 0)) (hρ : ∀ c s, c < 6 → s < 29 → φ 35 (29 * c + s) = ρ (8 + 29 * c + s))
    (hK : ∀ h1 φ1, XB h0 x q φ1 h1 → GbR ρ j w φ 6 0 φ1 → K (sm 6 (fun c => sm 29 (fun s => tobox ρ j w c s))) h1) : V_X6_giveBack x c a h K := by
  have key : ∀ (d c0 n : Nat) (φ1 : Nat → Nat → Int32) (h1 : Hp), c0 + d = 6 → d < n → XB h0 x q φ1 h1 → GbR ρ j w φ c0 0 φ1 → V_X6_giveBack_5 K n x c a (sm c0 (fun c => sm 29 (fun s => tobox ρ j w c s))) (nI c0) h1 := by
    intro d
    induction d with
    | zero =>
      intro c0 n φ1 hh h1 h2 y1 g
      obtain ⟨n, rfl⟩ : ∃ k, n = k + 1 := ⟨n - 1, by omega⟩
      obtain rfl : c0 = 6 := by omega
      exact ⟨fun _ => hK hh φ1 y1 g, fun z => absurd (by decide) z⟩
    | succ d ih =>
      intro c0 n φ1 hh h1 h2 y1 g
      obtain ⟨n, rfl⟩ : ∃ k, n = k + 1 := ⟨n - 1, by omega⟩
      unfold V_X6_giveBack_5
      rw [c6 (by omega)]
      refine ⟨fun z => absurd z (by omega), fun _ => ⟨30, ?_⟩⟩
      have := k_gb15 (K := K) (C5 := V_X6_giveBack_5 K n) (a := a) hq J a2 w φ ha (show c0 < 6 by omega) (sm c0 (fun c => sm 29 (fun s => tobox ρ j w c s))) (fun h3 φ3 y3 g3 => ih (c0 + 1) n φ3 h3 (by omega) (by omega) y3 g3) haa 29 0 30 φ1 hh rfl (by decide) y1 g
      rw [sm0, Int32.add_zero] at this
      exact this
  exact ⟨7, key 6 0 7 φ h rfl (by decide) y ⟨fun _ _ _ => rfl, fun c s a b => by rw [hρ c s a b, if_neg (by omega)], fun s b => by rw [if_neg (Nat.not_lt_zero _), sm0, Int32.add_zero]⟩⟩
end CBACK
