/-! the reference's calls: a job is set, the whole walk -/
def nS (ρ : Row) (nc j s : Nat) : Int32 := ndF ρ nc j (jlen ρ j) s
def filV (a b c : Int32) : Int32 := ((1000000 * a) + (1000 * b)) + c
def fil (ρ : Row) (nc j g : Nat) : Int32 := filV (f4 (jL ρ j).2.2.2.2 (thr ρ nc j 26) (thr ρ nc j 27) g) (f2 (jL ρ j).2.2.2.2 (thr ρ nc j 26) (thr ρ nc j 27) g) (f1 (jL ρ j).2.2.2.2 (thr ρ nc j 26) (thr ρ nc j 27) g)
def filR (ρ : Row) (j : Nat) (F : Nat → Int32) (g : Nat) : Row := fun x => if 211 + 272 * j + 241 ≤ x ∧ x < 211 + 272 * j + 241 + g then F (x - (211 + 272 * j + 241)) else ρ x
theorem filR_0 (ρ : Row) (j : Nat) (F : Nat → Int32) : filR ρ j F 0 = ρ := by
  funext x
  exact if_neg (by omega)
theorem filR_S (ρ : Row) (j : Nat) (F : Nat → Int32) (g : Nat) : ur (filR ρ j F g) (211 + 272 * j + (241 + g)) (F g) = filR ρ j F (g + 1) := by
  funext x
  show (if x = 211 + 272 * j + (241 + g) then F g else if 211 + 272 * j + 241 ≤ x ∧ x < 211 + 272 * j + 241 + g then F (x - (211 + 272 * j + 241)) else ρ x) = (if 211 + 272 * j + 241 ≤ x ∧ x < 211 + 272 * j + 241 + (g + 1) then F (x - (211 + 272 * j + 241)) else ρ x)
  by_cases e : x = 211 + 272 * j + (241 + g)
  · rw [if_pos e, if_pos (by omega), show x - (211 + 272 * j + 241) = g by omega]
  · rw [if_neg e]
    by_cases e2 : 211 + 272 * j + 241 ≤ x ∧ x < 211 + 272 * j + 241 + g
    · rw [if_pos e2, if_pos (by omega)]
    · rw [if_neg e2, if_neg (by omega)]
/-- the row while a job is set: the sorts below S are taken -/
def SetR (ρ : Row) (nc j hm : Nat) (w : Nat → Int32) (S : Nat) (ρ1 : Row) : Prop :=
  (∀ c s, c < 6 → s < 29 → ρ1 (8 + 29 * c + s) = if s < S ∧ (c = hm ∨ c < nc) then ρ (8 + 29 * c + s) - tk ρ hm s (w s) c else ρ (8 + 29 * c + s)) ∧
  (∀ c s, c < 6 → s < 29 → fm ρ1 j c s = if s < S ∧ (c = hm ∨ c < nc) then fm ρ j c s + tk ρ hm s (w s) c else fm ρ j c s) ∧
  ∀ x, (∀ c s, c < 6 → s < 29 → x ≠ 8 + 29 * c + s ∧ x ≠ 211 + 272 * j + (67 + 29 * c + s)) → ρ1 x = ρ x
theorem lf_same {ρ ρ1 : Row} {hm S : Nat} (hm6 : hm < 6) (e : ∀ c, c < 6 → ρ1 (8 + 29 * c + S) = ρ (8 + 29 * c + S)) (nd : Int32) : ∀ c, c ≤ 6 → lf ρ1 hm S nd c = lf ρ hm S nd c := by
  intro c
  induction c with
  | zero => intro _; show nd - tkh ρ1 hm S nd = nd - tkh ρ hm S nd; unfold tkh; rw [e hm hm6]
  | succ c ih => intro hc; unfold lf; rw [ih (by omega), e c (by omega)]
theorem tk_same {ρ ρ1 : Row} {hm S : Nat} (hm6 : hm < 6) (e : ∀ c, c < 6 → ρ1 (8 + 29 * c + S) = ρ (8 + 29 * c + S)) (nd : Int32) {c : Nat} (hc : c < 6) : tk ρ1 hm S nd c = tk ρ hm S nd c := by
  unfold tk tkh
  rw [lf_same hm6 e nd c (by omega), e hm hm6, e c hc]
theorem brw_same {ρ ρ1 : Row} {hm S nc : Nat} (hm6 : hm < 6) (h6 : nc ≤ 6) (e : ∀ c, c < 6 → ρ1 (8 + 29 * c + S) = ρ (8 + 29 * c + S)) (nd : Int32) : brw ρ1 hm S nd nc = brw ρ hm S nd nc := by
  unfold brw
  refine sm_congr (fun c hc => ?_)
  rw [lf_same hm6 e nd c (by omega), e c (by omega)]
theorem SetR.step {ρ ρ1 ρ2 : Row} {nc j hm S : Nat} {w : Nat → Int32} (g : SetR ρ nc j hm w S ρ1) (hS : S < 29) (hj : j < 12) (hm6 : hm < 6) (t : Tak ρ1 j hm S (w S) nc ρ2) : SetR ρ nc j hm w (S + 1) ρ2 := by
  obtain ⟨g1, g2, g3⟩ := g
  obtain ⟨t1, t2, t3⟩ := t
  have e : ∀ c, c < 6 → ρ1 (8 + 29 * c + S) = ρ (8 + 29 * c + S) := fun c hc => by rw [g1 c S hc hS, if_neg (fun q => absurd q.1 (Nat.lt_irrefl _))]
  have e2 : ∀ c, c < 6 → fm ρ1 j c S = fm ρ j c S := fun c hc => by rw [g2 c S hc hS, if_neg (fun q => absurd q.1 (Nat.lt_irrefl _))]
  refine ⟨fun c s hc hs => ?_, fun c s hc hs => ?_, fun x hx => ?_⟩
  · by_cases es : s = S
    · subst es
      rw [t1 c hc, tk_same hm6 e (w s) hc, e c hc]
      by_cases ec : c = hm ∨ c < nc
      · rw [if_pos ec, if_pos ⟨by omega, ec⟩]
      · rw [if_neg ec, if_neg (fun q => ec q.2)]
    · rw [t3 _ (fun c1 hc1 => by omega), g1 c s hc hs]
      by_cases ec : s < S ∧ (c = hm ∨ c < nc)
      · rw [if_pos ec, if_pos ⟨by omega, ec.2⟩]
      · rw [if_neg ec, if_neg (fun q => ec ⟨by omega, q.2⟩)]
  · by_cases es : s = S
    · subst es
      rw [t2 c hc, tk_same hm6 e (w s) hc, e2 c hc]
      by_cases ec : c = hm ∨ c < nc
      · rw [if_pos ec, if_pos ⟨by omega, ec⟩]
      · rw [if_neg ec, if_neg (fun q => ec q.2)]
    · rw [show fm ρ2 j c s = fm ρ1 j c s from t3 _ (fun c1 hc1 => by omega), g2 c s hc hs]
      by_cases ec : s < S ∧ (c = hm ∨ c < nc)
      · rw [if_pos ec, if_pos ⟨by omega, ec.2⟩]
      · rw [if_neg ec, if_neg (fun q => ec ⟨by omega, q.2⟩)]
  · rw [t3 x (fun c hc => hx c S hc hS)]
    exact g3 x hx
/-- the row behind set -/
def SetP (ρ : Row) (nc j hm : Nat) (ρ1 : Row) : Prop :=
  (∀ c s, c < 6 → s < 29 → ρ1 (8 + 29 * c + s) = if c = hm ∨ c < nc then ρ (8 + 29 * c + s) - tk ρ hm s (nS ρ nc j s) c else ρ (8 + 29 * c + s)) ∧
  (∀ c s, c < 6 → s < 29 → fm ρ1 j c s = if c = hm ∨ c < nc then fm ρ j c s + tk ρ hm s (nS ρ nc j s) c else fm ρ j c s) ∧
  (∀ g, g < (jL ρ j).1.2.2.1 → jb ρ1 j (241 + g) = fil ρ nc j g) ∧ jb ρ1 j 3 = 1 ∧
  ∀ x, (∀ c s, c < 6 → s < 29 → x ≠ 8 + 29 * c + s ∧ x ≠ 211 + 272 * j + (67 + 29 * c + s)) → (∀ g, g < (jL ρ j).1.2.2.1 → x ≠ 211 + 272 * j + (241 + g)) → x ≠ 211 + 272 * j + 3 → ρ1 x = ρ x
def sp_set (ρ : Row) (nc : Nat) (a : Int32) : Ans := if badJ ρ a then no (-1) else if jb ρ (ix a) 3 = 0 then (if lkN ρ nc (ix a) ≤ 0 then did (sm 29 (fun s => brw ρ (ix (jb ρ (ix a) 0)) s (nS ρ nc (ix a) s) nc)) (SetP ρ nc (ix a) (ix (jb ρ (ix a) 0))) else no (-4)) else no (-4)
section MSET2
variable {h0 h : Hp} {m : Nat} {σ : Nat → Nat → Int32} {K : Int32 → Hp → Prop} {k : Nat}
end MSET2
