/-! the class's calls: what is wanted is cast -/
theorem anyFull_t {ρ : Row} {c : Nat} {w : Nat → Int32} {i : Nat} (hi : i < 29) (e : ¬ ρ (8 + 29 * c + i) + w i ≤ 99) : anyFull ρ c w = true :=
  List.any_eq_true.mpr ⟨i, List.mem_range.mpr hi, decide_eq_true (Int32.not_le.mp e)⟩
theorem anyFull_f {ρ : Row} {c : Nat} {w : Nat → Int32} (e : ∀ i, i < 29 → ρ (8 + 29 * c + i) + w i ≤ 99) : ¬ anyFull ρ c w = true := fun z => by
  obtain ⟨i, hi, q⟩ := List.any_eq_true.mp z
  exact Int32.not_lt.mpr (e i (List.mem_range.mp hi)) (of_decide_eq_true q)
section CCAST
variable {h : Hp} {x : Nat} {σ : Nat → Nat → Int32} {k : Nat} {K : Int32 → Hp → Prop}
theorem k_cw93 {h1 : Hp} {φ1 : Nat → Nat → Int32} {c : Nat} (hc : c < 6) (w : Nat → Int32) (hw : ∀ s, s < 29 → φ1 39 s = w s) (n1 : NoR φ1 (σ 0)) (hO : OC h x σ k K (did (sm 29 w) (fun ρ' => ρ' = castA (σ 0) c w)))
    (fin : ∀ h' φ' (P : Row → Prop), XB h1 x (hR h1 x 2) φ' h' → (∀ n, n = 7 ∨ n = 1 ∨ n = 21 ∨ n = 20 → φ' n = φ1 n) → (∀ ρ', P ρ' → NoR φ' ρ' ∧ (∀ z, 211 ≤ z → ρ' z = σ 0 z) ∧ ρ' 1 = σ 0 1) → FR h h' ∧ ∀ σ', Act σ k P σ' → CR h' x σ' (rk k)) :
    ∀ (d i n : Nat) (φ : Nat → Nat → Int32) (h2 : Hp), i + d = 29 → d < n → XB h1 x (hR h1 x 2) φ h2 → (∀ k, k ≠ 35 → φ k = φ1 k) → (∀ j, j < 174 → φ 35 j = if 29 * c ≤ j ∧ j < 29 * c + i then σ 0 (8 + j) + w (j - 29 * c) else σ 0 (8 + j)) → V_X6_castWanted_93 K n x (nI c) (sm 29 (fun s => w s * wd s)) (sm 29 w) (nI i) h2 := by
  intro d
  induction d with
  | zero =>
    intro i n φ h2 p1 p2 y f1 g1
    obtain ⟨n, rfl⟩ : ∃ k, n = k + 1 := ⟨n - 1, by omega⟩
    obtain rfl : i = 29 := by omega
    refine ⟨fun _ => ?_, fun z => absurd (by decide) z⟩
    simp only [y.s, true_and]
    intro h3 e3
    have y3 := y.put 6 (Or.inl rfl) e3
    simp only [y3.s, true_and]
    intro h4 e4
    have y4 := y3.put 6 (Or.inl rfl) e4
    obtain ⟨s1, s2, s3⟩ := n1
    have e6 : φ 6 = φ1 6 := f1 6 (by decide)
    refine oc_fin hO (fin h4 _ _ y4 (fun n hn => by rw [← f1 n (by omega)]; funext i; rw [up_f (by omega), up_f (by omega)]) (fun ρ' hp => ?_))
    subst hp
    have cs : ∀ z, z < 8 → z ≠ 2 → z ≠ 6 → castA (σ 0) c w z = σ 0 z := fun z a b d => by unfold castA; rw [if_neg (by omega), if_neg b, if_neg d]
    refine ⟨⟨i8 ?_ ?_ ?_ ?_ ?_ ?_ ?_ ?_, fun i hi => ?_, fun i hi => ?_⟩, fun z hz => ?_, cs 1 (by decide) (by decide) (by decide)⟩
    · rw [cs 0 (by decide) (by decide) (by decide)]
      exact (up_i (by decide)).trans ((up_i (by decide)).trans (by rw [e6]; exact s1 0 (by decide)))
    · rw [cs 1 (by decide) (by decide) (by decide)]
      exact (up_i (by decide)).trans ((up_i (by decide)).trans (by rw [e6]; exact s1 1 (by decide)))
    · refine (up_i (by decide)).trans ((up_s _ _ _ _).trans ?_)
      unfold castA
      rw [if_neg (by omega), if_pos rfl, e6, show φ1 6 5 = σ 0 2 from s1 2 (by decide)]
    · rw [cs 3 (by decide) (by decide) (by decide)]
      exact (up_i (by decide)).trans ((up_i (by decide)).trans (by rw [e6]; exact s1 3 (by decide)))
    · rw [cs 4 (by decide) (by decide) (by decide)]
      exact (up_i (by decide)).trans ((up_i (by decide)).trans (by rw [e6]; exact s1 4 (by decide)))
    · rw [cs 5 (by decide) (by decide) (by decide)]
      exact (up_i (by decide)).trans ((up_i (by decide)).trans (by rw [e6]; exact s1 5 (by decide)))
    · refine (up_s _ _ _ _).trans ?_
      unfold castA
      rw [if_neg (by omega), if_neg (by decide), if_pos rfl, up_i (by decide), e6, show φ1 6 9 = σ 0 6 from s1 6 (by decide)]
    · rw [cs 7 (by decide) (by decide) (by decide)]
      exact (up_i (by decide)).trans ((up_i (by decide)).trans (by rw [e6]; exact s1 7 (by decide)))
    · rw [up_f (by decide), up_f (by decide), g1 i hi]
      unfold castA
      by_cases e : 29 * c ≤ i ∧ i < 29 * c + 29
      · rw [if_pos e, if_pos (by omega), show 8 + i - (8 + 29 * c) = i - 29 * c by omega]
      · rw [if_neg e, if_neg (by omega), if_neg (by omega), if_neg (by omega)]
    · rw [up_f (by decide), up_f (by decide), f1 36 (by decide), s3 i hi]
      unfold castA
      rw [if_neg (by omega), if_neg (by omega), if_neg (by omega)]
    · unfold castA
      rw [if_neg (by omega), if_neg (by omega), if_neg (by omega)]
  | succ d ih =>
    intro i n φ h2 p1 p2 y f1 g1
    obtain ⟨n, rfl⟩ : ∃ k, n = k + 1 := ⟨n - 1, by omega⟩
    unfold V_X6_castWanted_93
    rw [c29 (by omega), nI_1]
    simp only [y.s, ix_nI (show i < 2 ^ 31 by omega), show vp_in (nI i) 29 from vin (by omega) (by omega), true_and]
    refine ⟨fun z => absurd z (by omega), fun _ => k_put y hc (by omega) _ (fun h3 y3 => ih (i + 1) n _ h3 (by omega) (by omega) y3 (fun k hk => ?_) (fun j hj => ?_))⟩
    · rw [← f1 k hk]; funext z; rw [up_f hk]
    · rw [f1 39 (by decide), hw i (by omega)]
      by_cases e : j = 29 * c + i
      · rw [e, up_s, g1 _ (by omega), if_neg (by omega), if_pos (by omega), show 29 * c + i - 29 * c = i by omega]
      · rw [up_i e, g1 j hj]
        by_cases e2 : 29 * c ≤ j ∧ j < 29 * c + i
        · rw [if_pos e2, if_pos (by omega)]
        · rw [if_neg e2, if_neg (by omega)]
theorem k_castWanted (C : CR h x σ k) {c : Nat} (hc : c < 6) (w : Nat → Int32) (hw : ∀ s, s < 29 → hI h (hR h x 8) s = w s) (hO : OC h x σ k K (castW (σ 0) c w (sm 29 w))) : V_X6_castWanted x (nI c) h K := by
  obtain ⟨φ, y, ⟨v1, v2, v3⟩, ve⟩ := C.view
  have w39 : ∀ s, s < 29 → φ 39 s = w s := fun s hs => (ve 39 rfl s).trans (hw s hs)
  unfold castW at hO
  have key : ∀ (d i n : Nat), i + d = 29 → d < n → (∀ t, t < i → σ 0 (8 + 29 * c + t) + w t ≤ 99) → V_X6_castWanted_7 K n x (nI c) (sm i (fun s => w s * wd s)) (sm i w) (nI i) h := by
    intro d
    induction d with
    | zero =>
      intro i n p1 p2 g
      obtain ⟨n, rfl⟩ : ∃ k, n = k + 1 := ⟨n - 1, by omega⟩
      obtain rfl : i = 29 := by omega
      rw [if_neg (anyFull_f g)] at hO
      refine ⟨fun _ => ⟨C.n.1, C.n.2.1, fun z => ⟨C.n.1, ?_⟩, fun z => ?_⟩, fun z => absurd (by decide) z⟩
      · rw [show hI h (hR h x 1) 5 = σ 0 2 from C.n.2.2 2 (by decide)] at z
        rw [if_pos z] at hO
        refine k_actN C (fun h1 φ1 y1 f1 n1 e1 fin => ⟨30, ?_⟩)
        exact k_cw93 hc w (fun s hs => (e1 39 rfl (by decide) s).trans (hw s hs)) n1 hO fin 29 0 30 φ1 h1 rfl (by decide) y1 (fun _ _ => rfl) (fun j hj => by rw [if_neg (by omega)]; exact n1.2.1 j hj)
      · rw [show hI h (hR h x 1) 5 = σ 0 2 from C.n.2.2 2 (by decide)] at z
        rw [if_neg z] at hO
        exact hO.no (FR.rf h) C
    | succ d ih =>
      intro i n p1 p2 g
      obtain ⟨n, rfl⟩ : ∃ k, n = k + 1 := ⟨n - 1, by omega⟩
      unfold V_X6_castWanted_7
      rw [c29 (by omega), nI_1, k_held y hc (by omega), v2 _ (by omega), show 8 + (29 * c + i) = 8 + 29 * c + i by omega]
      simp only [y.s, ix_nI (show i < 2 ^ 31 by omega), show vp_in (nI i) 29 from vin (by omega) (by omega), k_width (show i < 29 by omega), w39 i (by omega), true_and]
      refine ⟨fun z => absurd z (by omega), fun _ => ⟨fun z => ?_, fun z => ?_⟩⟩
      · refine ih (i + 1) n (by omega) (by omega) (fun t ht => ?_)
        by_cases e : t = i
        · rw [e]; exact z
        · exact g t (by omega)
      · rw [if_pos (anyFull_t (show i < 29 by omega) z)] at hO
        exact hO.no (FR.rf h) C
  exact ⟨30, key 29 0 30 rfl (by decide) (fun t ht => absurd ht (Nat.not_lt_zero _))⟩
end CCAST
