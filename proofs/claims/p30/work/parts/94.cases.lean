/-! the law's method cases -/
/-- behind a step of the law: the row is as it was, or an act is recorded -/
def Po (x : Nat) (ρ : Row) (k t : Nat) (h' : Hp) : Prop := ∃ σ' k' t' nc' nj' ty', CR h' x σ' k' ∧ IV (σ' 0) t' nc' nj' ∧ σ' 5 0 = nI ty' ∧ ty' ≤ 60 ∧ 0 < nc' ∧ t' ≤ t + 2 ∧ ((σ' 0 = ρ ∧ k' = k) ∨ (k' = rk k ∧ ∀ y, y < 3475 → σ' 1 (3475 * (rk k - 1) + y) = ρ y))
section CASES
variable {hh h : Hp} {x k t nc nj : Nat} {σ : Nat → Nat → Int32} {K : Int32 → Hp → Prop}
theorem po_same {h' : Hp} {ty : Nat} (C : CR h' x σ k) (I : IV (σ 0) t nc nj) (h0 : 0 < nc) (h5 : σ 5 0 = nI ty) (hty : ty ≤ 60) : Po x (σ 0) k t h' := ⟨σ, k, t, nc, nj, ty, C, I, h5, hty, h0, by omega, Or.inl ⟨rfl, rfl⟩⟩
theorem po_act {h' : Hp} {ty nc' nj' : Nat} {ρ' : Row} {σ' : Nat → Nat → Int32} (C : CR h' x σ' (rk k)) (a : Af σ k ρ' σ') (I : IV (σ' 0) (t + 1) nc' nj') (h0 : 0 < nc') (h5 : σ 5 0 = nI ty) (hty : ty ≤ 60) : Po x (σ 0) k t h' := ⟨σ', rk k, t + 1, nc', nj', ty, C, I, by rw [a.2.1 5 (by decide) (by decide)]; exact h5, hty, h0, by omega, Or.inr ⟨rfl, a.2.2⟩⟩
theorem w_cases (C : CR h x σ k) (I : IV (σ 0) t nc nj) (h0 : 0 < nc) {ty : Nat} (h5 : σ 5 0 = nI ty) (hty : ty ≤ 60) {s : Nat} (hs : s ≤ 6) (a2 a3 : Int32) (hK : ∀ h', Po x (σ 0) k t h' → K 1 h') : V_L_cases x (nI s) a2 a3 h K := by
  obtain ⟨⟨d, B⟩, -⟩ := id I
  have h6 := I.n6
  have same : ∀ h', CR h' x σ k → K 1 h' := fun h' c => hK h' (po_same c I h0 h5 hty)
  refine u_count (Qh.rf C) B 0 (fun h1 q1 => ?_)
  rw [cv_0, I.c0, c2 (by omega), q0 (by omega)]
  have eq2 : nI s = (2 : Int32) ↔ s = 2 := nI_eq (b := 2) (by omega) (by decide)
  have eq3 : nI s = (3 : Int32) ↔ s = 3 := nI_eq (b := 3) (by omega) (by decide)
  have eq4 : nI s = (4 : Int32) ↔ s = 4 := nI_eq (b := 4) (by omega) (by decide)
  have eq5 : nI s = (5 : Int32) ↔ s = 5 := nI_eq (b := 5) (by omega) (by decide)
  have c87 : V_L_cases_87 K x (nI nc) h1 := a_addCase q1.2 I
    (fun z h2 c => ⟨fun w => absurd ((q6 (by omega)).mpr z) w, fun _ => ⟨fun w => absurd rfl w, fun _ => ⟨Or.inr rfl, same h2 c⟩⟩⟩)
    (fun z h2 σ' c a i => ⟨fun _ => ⟨fun w => absurd rfl w, fun _ => ⟨Or.inr rfl, hK h2 (po_act c a i (by omega) h5 hty)⟩⟩, fun w => absurd ((q6 (by omega)).mp w) z⟩)
  refine ⟨fun z => ⟨fun w => absurd w (by omega), fun _ => ⟨fun z2 => ?_, fun _ => c87⟩⟩, fun z => ?_⟩
  · rw [eq2] at z2
    have l1 := lo_lt a2 h0
    have l2 := lo_lt a3 (N := 29) (by decide)
    have l3 := lo_lt (a3 >>> ((5 : Int32) &&& 31)) (N := 40) (by decide)
    refine w_low h0 (by omega) (w_low (N := 29) (by decide) (by decide) (w_low (N := 40) (by decide) (by decide) (u_count q1 B 2 (fun h4 q4 => u_pc q4 B l1 l2 (fun h5' q5 => ?_)))))
    rw [cv_2]
    generalize lo_ a2 nc = c at l1 ⊢
    generalize lo_ a3 29 = u at l2 ⊢
    generalize lo_ (a3 >>> ((5 : Int32) &&& 31)) 40 = n0 at l3 ⊢
    rw [show (1 : Int32) + nI n0 = nI (1 + n0) from nI_add 1 n0, eq3, eq4, eq5]
    obtain ⟨v, v1, v2⟩ := I.h (c := c) (s := u) (by omega) l2
    refine ⟨fun z3 => ⟨fun z4 => ⟨fun z5 => ?_, fun z5 => ?_⟩, fun z4 => ?_⟩, fun z3 => ?_⟩
    · refine u_count q5 B 10 (fun h6 q6 => u_count q6 B 5 (fun h7 q7 => ?_))
      rw [cv_10, cv_5]
      refine a_meltBox q7.2 I (fun w h8 c' => ⟨fun w2 => absurd w w2, fun _ => ⟨fun w2 => absurd rfl w2, fun _ => u_count (Qh.rf c') B 10 (fun h9 q9 => ?_)⟩⟩) (fun w h8 σ' c' a i => ⟨fun _ => ⟨fun w2 => absurd rfl w2, fun _ => ?_⟩, fun w2 => absurd w2 w⟩)
      · rw [cv_10]
        exact ⟨fun w2 => absurd w w2, fun _ => ⟨Or.inr rfl, same h9 q9.2⟩⟩
      · obtain ⟨⟨d', B'⟩, -⟩ := id i
        refine u_count (Qh.rf c') B' 10 (fun h9 q9 => ?_)
        rw [cv_10]
        refine ⟨fun w2 => absurd ?_ w2, fun _ => ⟨Or.inr rfl, hK h9 (po_act q9.2 a i h0 h5 hty)⟩⟩
        rw [a.1]
        exact sm_zero (fun s hs => by rw [mbR_e, if_pos (by omega)])
    · refine a_melt q5.2 I l1 l2 (by omega) (by omega) (fun w h6 c' => ⟨fun w2 => absurd w2 w, fun _ => ⟨fun w2 => absurd rfl w2, fun _ => u_pc (Qh.rf c') B l1 l2 (fun h7 q7 => ⟨fun w2 => absurd w2 w, fun _ => ⟨fun w2 => absurd rfl w2, fun _ => ⟨Or.inr rfl, same h7 q7.2⟩⟩⟩)⟩⟩) (fun w h6 σ' c' a i => ⟨fun _ => w_width l2 ⟨fun w2 => absurd rfl w2, fun _ => ?_⟩, fun w2 => absurd w w2⟩)
      obtain ⟨⟨d', B'⟩, -⟩ := id i
      refine u_pc (Qh.rf c') B' l1 l2 (fun h7 q7 => ⟨fun _ => ⟨fun w2 => absurd ?_ w2, fun _ => ⟨Or.inr rfl, hK h7 (po_act q7.2 a i h0 h5 hty)⟩⟩, fun w2 => absurd w w2⟩)
      rw [a.1, ur_n (by omega), ur_n (by omega), ur_s]
    · have l4 := lo_lt a3 (N := 4) (by decide)
      refine w_low (N := 4) (by decide) (by decide) ?_
      generalize lo_ a3 4 = n4 at l4 ⊢
      rw [show (1 : Int32) + nI n4 = nI (1 + n4) from nI_add 1 n4]
      have c354 : ∀ h' σ' k' t' nj', CR h' x σ' k' → IV (σ' 0) t' nc nj' → (∀ h2, CR h2 x σ' k' → K 1 h2) → V_L_cases_354 K x (nI c) h' := fun h' σ' k' t' nj' c' i go => a_castFountX c' i l1 (fun h2 c2 => ⟨fun w => absurd rfl w, fun _ => ⟨Or.inr rfl, go h2 c2⟩⟩)
      have e32 : (32 : Int32) * nI (1 + n4) = nI (32 * (1 + n4)) := pk_mul 32 (1 + n4)
      refine a_castFount q5.2 I l1 (by omega) (by omega) (fun w h6 c' => ⟨fun w2 => ?_, fun _ => ⟨fun _ => ⟨fun _ => c354 h6 σ k t nj c' I (fun h2 c2 => same h2 c2), fun w2 => absurd (by decide) w2⟩, fun w2 => absurd rfl w2⟩⟩) (fun w h6 c' => ⟨fun w2 => ?_, fun _ => ⟨fun w2 => absurd w2 (by decide), fun _ => ⟨fun w2 => absurd rfl w2, fun _ => ⟨fun _ => c354 h6 σ k t nj c' I (fun h2 c2 => same h2 c2), fun w2 => absurd (by decide) w2⟩⟩⟩⟩) (fun h6 σ' c' a i => ⟨fun _ => ⟨fun w2 => ?_, fun _ => ?_⟩, fun w2 => absurd rfl w2⟩)
      · exfalso
        rw [e32] at w2
        exact cn0 (i := 32 * (1 + n4)) (by omega) (by rw [← w2]; decide)
      · exfalso
        rw [e32] at w2
        exact cn0 (i := 32 * (1 + n4)) (by omega) (by rw [← w2]; decide)
      · exfalso
        rw [e32] at w2
        exact cn0 (by omega) w2
      · obtain ⟨⟨d', B'⟩, -⟩ := id i
        have fin : ∀ h', CR h' x σ' (rk k) → V_L_cases_354 K x (nI c) h' := fun h' c2 => c354 h' σ' (rk k) (t + 1) nj c2 i (fun h2 c3 => hK h2 (po_act c3 a i h0 h5 hty))
        refine u_pc (Qh.rf c') B' l1 l2 (fun h7 q7 => ?_)
        have e : σ' 0 (8 + 29 * c + u) = σ 0 (8 + 29 * c + u) + fount (nI (1 + n4)) u := by rw [a.1, castA_h l2]
        rw [e, c26 (by omega)]
        unfold fount
        refine ⟨fun w => ⟨fun w2 => absurd ?_ w2, fun _ => fin h7 q7.2⟩, fun w => ⟨fun w2 => absurd ?_ w2, fun _ => fin h7 q7.2⟩⟩
        · rw [if_neg (by omega)]
        · rw [if_pos (by omega)]
    · have c249 : ∀ h' σ' k' t' nj' v, CR h' x σ' k' → IV (σ' 0) t' nc nj' → (∀ h2, CR h2 x σ' k' → K 1 h2) → V_L_cases_249 K x (nI c) v v h' := fun h' σ' k' t' nj' v c' i go => ⟨fun w => absurd rfl w, fun _ => a_cast29 c' i _ (fun h2 c2 => ⟨fun w => absurd rfl w, fun _ => ⟨Or.inr rfl, go h2 c2⟩⟩)⟩
      refine a_cast q5.2 I l1 l2 (by omega) (by omega) (fun w h6 c' => ⟨fun w2 => absurd w2 w, fun _ => ⟨fun w2 => absurd rfl w2, fun _ => u_count (Qh.rf c') B 2 (fun h7 q7 => ?_)⟩⟩) (fun w w' h6 c' => ⟨fun _ => w_width l2 ⟨fun w2 => absurd w2 w', fun _ => ⟨fun w2 => absurd rfl w2, fun _ => u_count (Qh.rf c') B 2 (fun h7 q7 => ?_)⟩⟩, fun w2 => absurd w w2⟩) (fun w w' h6 σ' c' a i => ⟨fun _ => w_width l2 ⟨fun _ => ⟨fun w2 => absurd rfl w2, fun _ => ?_⟩, fun w2 => absurd w' w2⟩, fun w2 => absurd w w2⟩)
      · rw [cv_2]
        exact ⟨fun w2 => absurd w2 (by decide), fun _ => c249 h7 σ k t nj _ q7.2 I (fun h2 c2 => same h2 c2)⟩
      · rw [cv_2]
        exact ⟨fun w2 => absurd w2 (by decide), fun _ => c249 h7 σ k t nj _ q7.2 I (fun h2 c2 => same h2 c2)⟩
      · obtain ⟨⟨d', B'⟩, -⟩ := id i
        refine u_count (Qh.rf c') B' 2 (fun h7 q7 => ?_)
        rw [cv_2]
        have e : σ' 0 2 = σ 0 2 - nI (1 + n0) * wd u := by
          rw [a.1]
          unfold castA
          rw [if_neg (by omega), if_pos rfl]
          show σ 0 2 - sm 29 (fun t => (if t = u then nI (1 + n0) else 0) * wd t) = _
          rw [sm_one (k := u) l2 (fun i _ z => by rw [if_neg z, Int32.zero_mul]), if_pos rfl]
        rw [e]
        refine ⟨fun _ => w_width l2 (c249 h7 σ' (rk k) (t + 1) nj _ q7.2 i (fun h2 c3 => hK h2 (po_act c3 a i h0 h5 hty))), fun w2 => absurd ?_ w2⟩
        rw [v2, nI_add]; exact c0 (by omega)
  · have l1 := lo_lt a3 (N := 20000) (by decide)
    refine w_low (N := 20000) (by decide) (by decide) (u_count q1 B 2 (fun h2 q2 => ?_))
    rw [cv_2]
    generalize lo_ a3 20000 = n0 at l1 ⊢
    rw [show (1 : Int32) + nI n0 = nI (1 + n0) from nI_add 1 n0]
    refine a_buy q2.2 I (by omega) (by omega) (fun w h3 c => ⟨fun w2 => absurd w2 w, fun _ => ⟨fun w2 => absurd rfl w2, fun _ => a_buyX c (fun h4 c4 => ⟨fun w2 => absurd rfl w2, fun _ => ⟨Or.inr rfl, same h4 c4⟩⟩)⟩⟩) (fun w h3 σ' c a i => ⟨fun _ => ⟨fun w2 => absurd rfl w2, fun _ => a_buyX c (fun h4 c4 => ⟨fun w2 => absurd rfl w2, fun _ => ⟨Or.inr rfl, hK h4 (po_act c4 a i h0 h5 hty)⟩⟩)⟩, fun w2 => absurd w w2⟩)
end CASES
