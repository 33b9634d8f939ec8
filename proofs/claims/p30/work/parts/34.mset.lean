/-! the reference's calls: what is missing is cast, a job is set -/
section MSET
variable {h0 h : Hp} {m : Nat} {σ : Nat → Nat → Int32} {K : Int32 → Hp → Prop} {k : Nat}
/-- what stays of the needs and the things there over an act that keeps the scratch rows -/
theorem lk_of {ρ : Row} {nc j : Nat} {σ : Nat → Nat → Int32} (hN : NRel ρ nc j (jlen ρ j) σ) {s : Nat} (hs : s < 29) : lk σ s = lkF ρ nc j s := by
  unfold lk lkF
  rw [(hN.1 s hs).1, (hN.1 s hs).2]
/-! a job is set: how many of a sort come from each case -/
def tkh (ρ : Row) (hm s : Nat) (nd : Int32) : Int32 := lst nd (ρ (8 + 29 * hm + s))
/-- what is left of the need behind the own case and the cases below k -/
def lf (ρ : Row) (hm s : Nat) (nd : Int32) : Nat → Int32
  | 0 => nd - tkh ρ hm s nd
  | k + 1 => lf ρ hm s nd k - (if k = hm then 0 else lst (lf ρ hm s nd k) (ρ (8 + 29 * k + s)))
def tk (ρ : Row) (hm s : Nat) (nd : Int32) (c : Nat) : Int32 := if c = hm then tkh ρ hm s nd else lst (lf ρ hm s nd c) (ρ (8 + 29 * c + s))
def brw (ρ : Row) (hm s : Nat) (nd : Int32) (n : Nat) : Int32 := sm n (fun k => if k = hm then 0 else lst (lf ρ hm s nd k) (ρ (8 + 29 * k + s)))
/-- the row while the sort S is taken: the own case is done, and the cases below C -/
def Tak (ρ : Row) (j hm S : Nat) (nd : Int32) (C : Nat) (ρ1 : Row) : Prop :=
  (∀ c, c < 6 → ρ1 (8 + 29 * c + S) = if c = hm ∨ c < C then ρ (8 + 29 * c + S) - tk ρ hm S nd c else ρ (8 + 29 * c + S)) ∧
  (∀ c, c < 6 → fm ρ1 j c S = if c = hm ∨ c < C then fm ρ j c S + tk ρ hm S nd c else fm ρ j c S) ∧
  ∀ x, (∀ c, c < 6 → x ≠ 8 + 29 * c + S ∧ x ≠ 211 + 272 * j + (67 + 29 * c + S)) → ρ1 x = ρ x
theorem Tak.step {ρ ρ1 : Row} {j hm S C : Nat} {nd : Int32} (g : Tak ρ j hm S nd C ρ1) (hC : C < 6) (hS : S < 29) (hj : j < 12) (hm6 : hm < 6) :
    Tak ρ j hm S nd (C + 1) (ur (ur ρ1 (8 + 29 * C + S) (ρ1 (8 + 29 * C + S) - (if C = hm then 0 else lst (lf ρ hm S nd C) (ρ (8 + 29 * C + S))))) (211 + 272 * j + (67 + 29 * C + S)) (fm ρ1 j C S + (if C = hm then 0 else lst (lf ρ hm S nd C) (ρ (8 + 29 * C + S))))) := by
  obtain ⟨g1, g2, g3⟩ := g
  refine ⟨fun c hc => ?_, fun c hc => ?_, fun x hx => ?_⟩
  · rw [ur_n (by omega)]
    by_cases e : c = C
    · subst e
      rw [ur_s, g1 c hc]
      by_cases e2 : c = hm
      · rw [if_pos e2, Int32.sub_zero, if_pos (Or.inl e2), if_pos (Or.inl e2)]
      · rw [if_neg e2, if_neg (by omega), if_pos (Or.inr (by omega))]
        unfold tk; rw [if_neg e2]
    · rw [ur_n (by omega), g1 c hc]
      by_cases e2 : c = hm ∨ c < C
      · rw [if_pos e2, if_pos (by omega)]
      · rw [if_neg e2, if_neg (by omega)]
  · unfold fm
    by_cases e : c = C
    · subst e
      have g2' := g2 c hc
      unfold fm at g2'
      rw [ur_s, g2']
      by_cases e2 : c = hm
      · rw [if_pos e2, Int32.add_zero, if_pos (Or.inl e2), if_pos (Or.inl e2)]
      · rw [if_neg e2, if_neg (by omega), if_pos (Or.inr (by omega))]
        unfold tk; rw [if_neg e2]
    · rw [ur_n (by omega), ur_n (by omega)]
      have := g2 c hc
      unfold fm at this
      rw [this]
      by_cases e2 : c = hm ∨ c < C
      · rw [if_pos e2, if_pos (by omega)]
      · rw [if_neg e2, if_neg (by omega)]
  · rw [ur_n (hx C hC).2, ur_n (hx C hC).1]
    exact g3 x hx
theorem Tak.own {ρ : Row} {j hm S : Nat} {nd : Int32} (hS : S < 29) (hj : j < 12) (hm6 : hm < 6) :
    Tak ρ j hm S nd 0 (ur (ur ρ (8 + 29 * hm + S) (ρ (8 + 29 * hm + S) - tkh ρ hm S nd)) (211 + 272 * j + (67 + 29 * hm + S)) (fm ρ j hm S + tkh ρ hm S nd)) := by
  refine ⟨fun c hc => ?_, fun c hc => ?_, fun x hx => ?_⟩
  · rw [ur_n (by omega)]
    by_cases e : c = hm
    · subst e
      rw [ur_s, if_pos (Or.inl rfl)]
      unfold tk; rw [if_pos rfl]
    · rw [ur_n (by omega), if_neg (by omega)]
  · unfold fm
    by_cases e : c = hm
    · subst e
      rw [ur_s, if_pos (Or.inl rfl)]
      unfold tk; rw [if_pos rfl]
    · rw [ur_n (by omega), ur_n (by omega), if_neg (by omega)]
  · rw [ur_n (hx hm hm6).2, ur_n (hx hm hm6).1]
end MSET
