/-! the reference's calls: founts, the box, printing -/
def castP (ρ : Row) (c : Nat) (w : Nat → Int32) (i : Nat) : Row := fun x => if 8 + 29 * c ≤ x ∧ x < 8 + 29 * c + i then ρ x + w (x - (8 + 29 * c)) else if x = 2 then ρ 2 - sm i (fun s => w s * wd s) else if x = 6 then ρ 6 + sm i w else ρ x
theorem castP_0 (ρ : Row) (c : Nat) (w : Nat → Int32) : castP ρ c w 0 = ρ := by
  funext x
  unfold castP
  rw [if_neg (by omega), sm0, sm0, Int32.add_zero, Int32.sub_zero]
  by_cases h : x = 2
  · rw [if_pos h, h]
  · by_cases h6 : x = 6
    · rw [if_neg h, if_pos h6, h6]
    · rw [if_neg h, if_neg h6]
theorem i_sub_add (a b c : Int32) : a - b - c = a - (b + c) := by
  rw [Int32.sub_eq_add_neg, Int32.sub_eq_add_neg, Int32.sub_eq_add_neg, Int32.neg_add, Int32.sub_eq_add_neg, Int32.add_assoc]
theorem castP_S (ρ : Row) (c : Nat) (w : Nat → Int32) {i : Nat} (hi : i < 29) : castP ρ c w (i + 1) = fun y => if y = 8 + 29 * c + i then castP ρ c w i y + w i else if y = 2 then castP ρ c w i 2 - w i * wd i else if y = 6 then castP ρ c w i 6 + w i else castP ρ c w i y := by
  funext y
  unfold castP
  simp only [show ¬ (8 + 29 * c ≤ 2 ∧ 2 < 8 + 29 * c + i) by omega, show ¬ (8 + 29 * c ≤ 6 ∧ 6 < 8 + 29 * c + i) by omega, if_false, if_true, show ¬ (6 : Nat) = 2 by decide]
  by_cases a : y = 8 + 29 * c + i
  · rw [if_pos (by omega), if_pos a, if_neg (by omega), if_neg (by omega), if_neg (by omega), show y - (8 + 29 * c) = i by omega]
  · rw [if_neg a]
    by_cases b : 8 + 29 * c ≤ y ∧ y < 8 + 29 * c + i
    · rw [if_pos (by omega), if_neg (by omega), if_neg (by omega), if_pos b]
    · rw [if_neg (by omega), if_neg b]
      by_cases e : y = 2
      · rw [if_pos e, if_pos e, smS, i_sub_add]
      · rw [if_neg e, if_neg e]
        by_cases e6 : y = 6
        · rw [if_pos e6, if_pos e6, smS, Int32.add_assoc]
        · rw [if_neg e6, if_neg e6, if_neg e, if_neg e6]
def anyF (ρ : Row) (c : Nat) (w : Nat → Int32) (i : Nat) : Bool := (List.range i).any (fun s => decide (99 < ρ (8 + 29 * c + s) + w s))
theorem anyF_S (ρ : Row) (c : Nat) (w : Nat → Int32) (i : Nat) : anyF ρ c w (i + 1) = (anyF ρ c w i || decide (99 < ρ (8 + 29 * c + i) + w i)) := by
  unfold anyF
  rw [List.range_succ, List.any_append, List.any_cons, List.any_nil, Bool.or_false]
def b01 (b : Bool) : Int32 := if b = true then 1 else 0
section MPUB2
variable {h0 h : Hp} {m : Nat} {σ : Nat → Nat → Int32} {K : Int32 → Hp → Prop} {k : Nat}
theorem s_cf126 {c : Nat} (hc : c < 6) (n : Int32) (ρ : Row) (σ0 : Nat → Nat → Int32) (hK : ∀ h1 σ1, MB h0 m σ1 h1 → (∀ f, 1 ≤ f → σ1 f = σ0 f) → σ1 0 = castP ρ c (fount n) 29 → K (32 * n) h1) :
    ∀ (d i q : Nat) (σ : Nat → Nat → Int32) (h : Hp), i + d = 29 → d < q → MB h0 m σ h → (∀ f, 1 ≤ f → σ f = σ0 f) → σ 0 = castP ρ c (fount n) i → V_X7_castFount_126 K q m (nI c) n (nI i) h := by
  intro d
  induction d with
  | zero =>
    intro i q σ h h1 h2 x g1 g2
    obtain ⟨q, rfl⟩ : ∃ k, q = k + 1 := ⟨q - 1, by omega⟩
    obtain rfl : i = 29 := by omega
    exact ⟨fun _ => hK h σ x g1 g2, fun z => absurd (by decide) z⟩
  | succ d ih =>
    intro i q σ h h1 h2 x g1 g2
    obtain ⟨q, rfl⟩ : ∃ k, q = k + 1 := ⟨q - 1, by omega⟩
    unfold V_X7_castFount_126 V_X7_castFount_151
    rw [c29 (by omega), c26 (by omega), nI_1]
    have go : ∀ z : Int32, z = fount n i → V_X7_casts m (nI c) (nI i) z h (fun h1 => V_X7_castFount_126 K q m (nI c) n (nI (i + 1)) h1) := by
      intro z hz
      subst hz
      refine s_casts x hc (by omega) _ (fun h1 σ1 x1 f1 f2 => ih (i + 1) q σ1 h1 (by omega) (by omega) x1 (fun f hf => (f1 f hf).trans (g1 f hf)) ?_)
      rw [f2, g2, castP_S ρ c _ (by omega)]
    refine ⟨fun z => absurd z (by omega), fun _ => ⟨fun z => ⟨x.k, go _ ?_⟩, fun z => ⟨x.k, go _ ?_⟩⟩⟩
    · unfold fount; rw [if_neg (by omega)]
    · unfold fount; rw [if_pos (by omega)]
theorem s_cf31 (x : MB h0 m σ h) (hk : k ≤ 5) (hk2 : σ 2 0 = nI k) {c : Nat} (hc : c < 6) (n : Int32) (hO : OM h0 m σ k K (castW (σ 0) c (fount n) (32 * n))) :
    ∀ (d i q : Nat), i + d = 29 → d < q → V_X7_castFount_31 K q m (nI c) n (sm i (fun s => fount n s * wd s)) (b01 (anyF (σ 0) c (fount n) i)) (nI i) h := by
  intro d
  induction d with
  | zero =>
    intro i q h1 h2
    obtain ⟨q, rfl⟩ : ∃ k, q = k + 1 := ⟨q - 1, by omega⟩
    obtain rfl : i = 29 := by omega
    unfold V_X7_castFount_31
    unfold castW at hO
    rw [show anyFull (σ 0) c (fount n) = anyF (σ 0) c (fount n) 29 from rfl] at hO
    refine ⟨fun _ => ?_, fun z => absurd (by decide) z⟩
    by_cases e : anyF (σ 0) c (fount n) 29 = true
    · rw [if_pos e] at hO
      unfold b01
      rw [if_pos e]
      exact ⟨fun z => absurd z ne01, fun _ => hO.no x Idle.rf⟩
    · rw [if_neg e] at hO
      unfold b01
      rw [if_neg e]
      simp only [x.s, LT, true_and]
      refine ⟨fun _ => ⟨fun z => ?_, fun z => ?_⟩, fun z => absurd trivial z⟩
      · rw [if_pos z] at hO
        refine s_record x hk hk2 (fun h1 σ1 x1 r1 => ⟨30, ?_⟩)
        refine s_cf126 hc n (σ1 0) σ1 (fun h2 σ2 x2 g1 g2 => ?_) 29 0 30 σ1 h1 rfl (by decide) x1 (fun _ _ => rfl) (castP_0 _ _ _).symm
        refine hO.did x2 (Act.of r1 (fun f a _ => g1 f a) ?_)
        rw [g2, r1.1 0 (by decide) (by decide)]
        rfl
      · rw [if_neg z] at hO
        exact hO.no x Idle.rf
  | succ d ih =>
    intro i q h1 h2
    obtain ⟨q, rfl⟩ : ∃ k, q = k + 1 := ⟨q - 1, by omega⟩
    unfold V_X7_castFount_31 V_X7_castFount_52 V_X7_castFount_74 V_X7_castFount_79
    rw [c29 (by omega), c26 (by omega), nI_1]
    simp only [s_width (show i < 29 by omega), s_has x hc (show i < 29 by omega), x.s, true_and]
    have go := ih (i + 1) q (by omega) (by omega)
    rw [smS, anyF_S] at go
    have both : ∀ z : Int32, z = fount n i → (¬ b01 (anyF (σ 0) c (fount n) i) = 0 → V_X7_castFount_31 K q m (nI c) n (sm i (fun s => fount n s * wd s) + z * wd i) 1 (nI (i + 1)) h) ∧
        (b01 (anyF (σ 0) c (fount n) i) = 0 → (σ 0 (8 + 29 * c + i) + z ≤ 99 → V_X7_castFount_31 K q m (nI c) n (sm i (fun s => fount n s * wd s) + z * wd i) 0 (nI (i + 1)) h) ∧ (¬ σ 0 (8 + 29 * c + i) + z ≤ 99 → V_X7_castFount_31 K q m (nI c) n (sm i (fun s => fount n s * wd s) + z * wd i) 1 (nI (i + 1)) h)) := by
      intro z hz
      subst hz
      cases e : anyF (σ 0) c (fount n) i with
      | true =>
        rw [e] at go
        exact ⟨fun _ => go, fun q => absurd q ne01⟩
      | false =>
        rw [e, Bool.false_or] at go
        refine ⟨fun q => absurd rfl q, fun _ => ⟨fun q => ?_, fun q => ?_⟩⟩
        · rw [show decide (99 < σ 0 (8 + 29 * c + i) + fount n i) = false from decide_eq_false (Int32.not_lt.mpr q)] at go
          exact go
        · rw [show decide (99 < σ 0 (8 + 29 * c + i) + fount n i) = true from decide_eq_true (Int32.not_le.mp q)] at go
          exact go
    refine ⟨fun z => absurd z (by omega), fun _ => ⟨fun z => both _ ?_, fun z => both _ ?_⟩⟩
    · unfold fount; rw [if_neg (by omega)]
    · unfold fount; rw [if_pos (by omega)]
theorem m_castFount (x : MB h0 m σ h) (hk : k ≤ 5) (hk2 : σ 2 0 = nI k) {nc : Nat} (hn : σ 0 0 = nI nc) (hn6 : nc ≤ 6) (b n : Int32) (hO : OM h0 m σ k K (sp_castFount (σ 0) b n)) : V_X7_castFount m b n h K := by
  unfold V_X7_castFount
  unfold sp_castFount at hO
  simp only [x.s, s_noCase x, s_in, true_and]
  rcases badC_of hn hn6 b with hb | ⟨c, hc, hc6, rfl, hb, hbi⟩
  · rw [if_pos hb] at hO ⊢
    exact ⟨fun q => absurd q ne01, fun _ => hO.no x Idle.rf⟩
  · rw [if_neg hb] at hO ⊢
    refine ⟨fun _ => ?_, fun q => absurd rfl q⟩
    by_cases hn : n < 1 ∨ 9 < n
    · rw [if_pos hn] at hO ⊢
      exact ⟨fun q => absurd rfl q, fun _ => hO.no x Idle.rf⟩
    · rw [if_neg hn] at hO ⊢
      rw [hbi] at hO
      exact ⟨fun _ => ⟨30, s_cf31 x hk hk2 hc6 n hO 29 0 30 rfl (by decide)⟩, fun q => absurd q ne01⟩
theorem s_print72 (x : MB h0 m σ h) {j : Nat} (hj : j < 12) (v : Int32) (hK : ∀ h1, MB h0 m (up σ 0 (211 + 272 * j + 5) v) h1 → K v h1) : V_X7_print_72 K m (nI j) m (nI j) 5 v h := by
  unfold V_X7_print_72
  rw [show (5 : Int32) = nI 5 from rfl]
  refine ⟨x.k, s_put x hj (by decide) _ (fun h1 x1 => ⟨x1.k, ?_⟩)⟩
  rw [s_ofJob x1 hj (by decide), up_s]
  exact hK h1 x1
theorem m_print (x : MB h0 m σ h) (hk : k ≤ 5) (hk2 : σ 2 0 = nI k) {nj : Nat} (hn : σ 0 1 = nI nj) (hn6 : nj ≤ 12) (a : Int32) (hO : OM h0 m σ k K (sp_print (σ 0) a)) : V_X7_print m a h K := by
  unfold V_X7_print
  unfold sp_print at hO
  simp only [x.s, s_noJob x, true_and]
  rcases badJ_of hn hn6 a with hb | ⟨j, hj, hj12, rfl, hb, hbi⟩
  · rw [if_pos hb] at hO ⊢
    exact ⟨fun q => absurd q ne01, fun _ => hO.no x Idle.rf⟩
  · rw [if_neg hb] at hO ⊢
    rw [hbi, show jb (σ 0) j 3 = σ 0 (211 + 272 * j + 3) from rfl] at hO
    refine ⟨fun _ => ?_, fun q => absurd rfl q⟩
    rw [show (3 : Int32) = nI 3 from rfl, s_ofJob x hj12 (by decide)]
    refine ⟨fun q => ?_, fun q => ?_⟩
    · rw [if_pos q] at hO
      refine ⟨x.k, s_record x hk hk2 (fun h1 σ1 x1 r1 => ?_)⟩
      have e0 := r1.1 0 (by decide) (by decide)
      rw [show (nI 3 : Int32) = 3 from rfl]
      simp only [x1.s, LT, true_and]
      rw [show (2 : Int32) = nI 2 from rfl, s_ofJob x1 hj12 (by decide), show (3 : Int32) = nI 3 from rfl]
      refine ⟨x1.k, s_put x1 hj12 (by decide) _ (fun h2 x2 => ?_)⟩
      rw [show (nI 3 : Int32) = 3 from rfl]
      simp only [x2.s, LT, true_and]
      rw [show (4 : Int32) = nI 4 from rfl]
      refine s_put x2 hj12 (by decide) _ (fun h3 x3 => ?_)
      have fin : ∀ v, v = late (σ 0) j → ∀ h4, MB h0 m (up (up (up σ1 0 (211 + 272 * j + 3) (nI 2)) 0 (211 + 272 * j + 4) (up σ1 0 (211 + 272 * j + 3) (nI 2) 0 3)) 0 (211 + 272 * j + 5) v) h4 → K v h4 := by
        intro v hv h4 x4
        rw [hv] at x4 ⊢
        refine hO.did x4 (Act.of r1 (fun f z _ => by funext y; rw [up_f (by omega), up_f (by omega), up_f (by omega)]) ?_)
        rw [up_i (show (3 : Nat) ≠ 211 + 272 * j + 3 by omega), up0, up0, up0, e0]
        rfl
      unfold late jb at fin
      rw [e0]
      exact ⟨fun z => s_print72 x3 hj12 _ (fun h4 x4 => fin _ (by rw [if_pos z]) h4 x4), fun z => s_print72 x3 hj12 _ (fun h4 x4 => fin _ (by rw [if_neg z]) h4 x4)⟩
    · rw [if_neg q] at hO
      exact hO.no x Idle.rf
end MPUB2
