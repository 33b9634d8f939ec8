/-! the class's calls: meltBox -/
def mbR (ρ : Row) : Row := fun x => if 182 ≤ x ∧ x < 211 then 0 else if x = 5 then ρ 5 + boxM ρ / 50 else if x = 2 then ρ 2 + (boxM ρ - boxM ρ / 50) else if x = 7 then ρ 7 + boxN ρ else ρ x
theorem mbR_e (ρ : Row) (z : Nat) : mbR ρ z = if 182 ≤ z ∧ z < 211 then 0 else if z = 5 then ρ 5 + boxM ρ / 50 else if z = 2 then ρ 2 + (boxM ρ - boxM ρ / 50) else if z = 7 then ρ 7 + boxN ρ else ρ z := rfl
section CMBOX
variable {h : Hp} {x : Nat} {σ : Nat → Nat → Int32} {k : Nat} {K : Int32 → Hp → Prop}
theorem k_meltBox (C : CR h x σ k) (hO : OC h x σ k K (sp_meltBox (σ 0))) : V_X6_meltBox x h K := by
  obtain ⟨φ, y, ⟨v1, v2, v3⟩, ve⟩ := C.view
  unfold V_X6_meltBox
  unfold sp_meltBox at hO
  refine ⟨C.n.1, C.n.2.1, k_wornPieces y ?_⟩
  rw [show sm 29 (fun s => φ 36 s) = boxN (σ 0) from sm_congr (fun s hs => v3 s hs)]
  refine ⟨fun z => ⟨C.n.1, ?_⟩, fun z => ?_⟩
  · rw [if_neg z] at hO
    refine k_actN C (fun h1 φ1 y1 f1 n1 e1 fin => ?_)
    obtain ⟨s1, s2, s3⟩ := n1
    simp only [y1.s, true_and]
    refine k_wornMetal y1 ?_
    rw [show sm 29 (fun s => φ1 36 s * wd s) = boxM (σ 0) from sm_congr (fun s hs => by rw [s3 s hs])]
    simp only [y1.s, true_and]
    refine k_empty (fun h2 φ2 y2 g1 g2 => ?_) y1
    simp only [y2.s, true_and]
    intro h3 e3
    have y3 := y2.put 6 (Or.inl rfl) e3
    simp only [y3.s, true_and]
    intro h4 e4
    have y4 := y3.put 6 (Or.inl rfl) e4
    simp only [y4.s, true_and]
    intro h5 e5
    have y5 := y4.put 6 (Or.inl rfl) e5
    have e6 : φ2 6 = φ1 6 := g1 6 (by decide)
    refine oc_fin hO (fin h5 _ _ y5 (fun n hn => by rw [← g1 n (by omega)]; funext i; rw [up_f (by omega), up_f (by omega), up_f (by omega)]) (fun ρ' hp => ?_))
    subst hp
    refine ⟨⟨i8 ?_ ?_ ?_ ?_ ?_ ?_ ?_ ?_, fun i hi => ?_, fun i hi => ?_⟩, fun z hz => ?_, ?_⟩
    · refine (up_i (by decide)).trans ((up_i (by decide)).trans ((up_i (by decide)).trans ?_))
      rw [e6]; show _ = mbR (σ 0) 0; rw [mbR_e, if_neg (by omega), if_neg (by omega), if_neg (by omega), if_neg (by omega)]; exact s1 0 (by decide)
    · refine (up_i (by decide)).trans ((up_i (by decide)).trans ((up_i (by decide)).trans ?_))
      rw [e6]; show _ = mbR (σ 0) 1; rw [mbR_e, if_neg (by omega), if_neg (by omega), if_neg (by omega), if_neg (by omega)]; exact s1 1 (by decide)
    · refine (up_i (by decide)).trans ((up_i (by decide)).trans ((up_s _ _ _ _).trans ?_))
      rw [e6]; show _ = mbR (σ 0) 2; rw [mbR_e, if_neg (by omega), if_neg (by omega), if_pos rfl, show φ1 6 5 = σ 0 2 from s1 2 (by decide)]
    · refine (up_i (by decide)).trans ((up_i (by decide)).trans ((up_i (by decide)).trans ?_))
      rw [e6]; show _ = mbR (σ 0) 3; rw [mbR_e, if_neg (by omega), if_neg (by omega), if_neg (by omega), if_neg (by omega)]; exact s1 3 (by decide)
    · refine (up_i (by decide)).trans ((up_i (by decide)).trans ((up_i (by decide)).trans ?_))
      rw [e6]; show _ = mbR (σ 0) 4; rw [mbR_e, if_neg (by omega), if_neg (by omega), if_neg (by omega), if_neg (by omega)]; exact s1 4 (by decide)
    · refine (up_i (by decide)).trans ((up_s _ _ _ _).trans ?_)
      rw [up_i (by decide), e6]; show _ = mbR (σ 0) 5; rw [mbR_e, if_neg (by omega), if_pos rfl, show φ1 6 8 = σ 0 5 from s1 5 (by decide)]
    · refine (up_i (by decide)).trans ((up_i (by decide)).trans ((up_i (by decide)).trans ?_))
      rw [e6]; show _ = mbR (σ 0) 6; rw [mbR_e, if_neg (by omega), if_neg (by omega), if_neg (by omega), if_neg (by omega)]; exact s1 6 (by decide)
    · refine (up_s _ _ _ _).trans ?_
      rw [up_i (by decide), up_i (by decide), e6]; show _ = mbR (σ 0) 7; rw [mbR_e, if_neg (by omega), if_neg (by omega), if_neg (by omega), if_pos rfl, show φ1 6 10 = σ 0 7 from s1 7 (by decide)]
    · rw [up_f (by decide), up_f (by decide), up_f (by decide), g1 35 (by decide)]; show _ = mbR (σ 0) (8 + i); rw [mbR_e, if_neg (by omega), if_neg (by omega), if_neg (by omega), if_neg (by omega)]
      exact s2 i hi
    · rw [up_f (by decide), up_f (by decide), up_f (by decide)]; show _ = mbR (σ 0) (182 + i); rw [mbR_e, if_pos (by omega)]
      exact g2 i hi
    · show (if _ then _ else if z = 5 then _ else if z = 2 then _ else if z = 7 then _ else σ 0 z) = σ 0 z
      rw [if_neg (by omega), if_neg (by omega), if_neg (by omega), if_neg (by omega)]
    · show (if _ then _ else if 1 = 5 then _ else if 1 = 2 then _ else if 1 = 7 then _ else σ 0 1) = σ 0 1
      rw [if_neg (by omega), if_neg (by omega), if_neg (by omega), if_neg (by omega)]
  · rw [if_pos z] at hO
    exact hO.no (FR.rf h) C
end CMBOX
