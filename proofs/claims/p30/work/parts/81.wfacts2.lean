/-! order and set keep what holds of every row -/
section GA2
variable {ρ : Row} {t : Nat}
theorem ga_order {nc nj d ty : Nat} (h1 : nc ≤ 6) (h2 : nj ≤ 12) (h3 : d ≤ 30 * t) (h4 : ρ 0 = nI nc) (h5 : ρ 1 = nI nj) (h6 : ρ 3 = nI d) (h7 : ∀ c s, c < 6 → s < 29 → ∃ n, n ≤ 99 ∧ ρ (8 + 29 * c + s) = nI n) (h8 : ∀ c s, nc ≤ c → c < 6 → s < 29 → ρ (8 + 29 * c + s) = 0) (h9 : ∀ j, j < nj → JWF ρ nc j) (hty : ty ≤ 60) (b w dd : Int32) (tx : Nat → Int32) : GA (sp_order ρ nj b w dd tx ty) t := by
  unfold sp_order
  by_cases c1 : badC ρ b
  · rw [if_pos c1]; exact ga_no
  · rw [if_neg c1]
    by_cases c2 : w < 10 ∨ 150 < w
    · rw [if_pos c2]; exact ga_no
    · rw [if_neg c2]
      by_cases c3 : dd < 0 ∨ 9999 < dd
      · rw [if_pos c3]; exact ga_no
      · rw [if_neg c3]
        cases ef : flt tx ty true 0 with
        | some i => exact ga_no
        | none =>
          show GA (sp_ord ρ nj b w dd tx ty) t
          have hF := flt_FF hty ef
          unfold sp_ord
          by_cases c4 : (lay tx w ty).1.2.2.2 = true
          · rw [if_pos c4]; exact ga_no
          · rw [if_neg c4]
            by_cases c5 : nj = 12
            · rw [if_pos c5]; exact ga_no
            · rw [if_neg c5]
              refine ga_did (fun ρ' hp => ?_)
              subst hp
              rcases badC_of h4 h1 b with z | ⟨c, b1, b2, rfl, -, -⟩
              · exact absurd z c1
              · obtain ⟨m, m1, m2, rfl⟩ := small_of (fun z => c2 (Or.inl (Int32.lt_trans z (by decide)))) (N := 150) rfl (by decide) (Int32.not_lt.mp (fun z => c2 (Or.inr z)))
                refine ⟨nc, nj + 1, d, h1, by omega, by omega, by rw [ordR_o hty (by decide) (by omega)]; exact h4, ur_s _ _ _, by rw [ordR_o hty (by decide) (by omega)]; exact h6, fun c s a b => by rw [ordR_o hty (by omega) (by omega)]; exact h7 c s a b, fun c s a b e => by rw [ordR_o hty (by omega) (by omega)]; exact h8 c s a b e, fun i hi => ?_⟩
                by_cases e : i = nj
                · subst e
                  obtain ⟨a0, a1, a2, a3, a4, a5, a6⟩ := @ordR_h ρ i ty (nI c) (nI m) dd tx
                  have eT : ∀ p, p < ty → tx p = jtx (ordR ρ i (nI c) (nI m) dd tx ty) i p := fun p hp => (ordR_t hp).symm
                  have fz : ∀ c' s, c' < 6 → s < 29 → fm (ordR ρ i (nI c) (nI m) dd tx ty) i c' s = 0 := fun c' s a b => ordR_z hty (by omega) (by omega)
                  refine ⟨⟨⟨by rw [ordR_l hty]; exact a6, by rw [ordR_l hty]; exact hF.congr eT⟩, ⟨m, m2, a1⟩, ?_⟩, ⟨c, b1, a0⟩, fun c' s a b => ⟨0, by decide, fz c' s a b⟩, fun c' s _ b d => fz c' s b d, fun _ => fz, fun z => by rw [a3] at z; exact absurd z (by decide), ?_, fun _ => a4⟩
                  · unfold jL jlay
                    rw [ordR_l hty, a1, ← lay_congr eT]
                    exact (Bool.not_eq_true _).mp c4
                  · rw [a5]; unfold lateC; rw [if_pos a4]
                · exact (h9 i (by omega)).same (fun w hw => ordR_o hty (by omega) (by omega)) (Nat.le_refl _)
theorem ga_set {nc nj d : Nat} (h1 : nc ≤ 6) (h2 : nj ≤ 12) (h3 : d ≤ 30 * t) (h4 : ρ 0 = nI nc) (h5 : ρ 1 = nI nj) (h6 : ρ 3 = nI d) (h7 : ∀ c s, c < 6 → s < 29 → ∃ n, n ≤ 99 ∧ ρ (8 + 29 * c + s) = nI n) (h8 : ∀ c s, nc ≤ c → c < 6 → s < 29 → ρ (8 + 29 * c + s) = 0) (h9 : ∀ j, j < nj → JWF ρ nc j) (a : Int32) : GA (sp_set ρ nc a) t := by
  unfold sp_set
  by_cases c1 : badJ ρ a
  · rw [if_pos c1]; exact ga_no
  · rw [if_neg c1]
    rcases badJ_of h5 h2 a with z | ⟨j, j1, j2, rfl, -, ji⟩
    · exact absurd z c1
    · rw [ji]
      by_cases c2 : jb ρ j 3 = 0
      · rw [if_pos c2]
        by_cases c3 : lkN ρ nc j ≤ 0
        · rw [if_pos c3]
          refine ga_did (fun ρ' hp => ?_)
          obtain ⟨g1, ⟨hm, g2, g2'⟩, g3, g4, g5, g6, g7, g8⟩ := h9 j j1
          rw [g2', ix_nI (by omega)] at hp
          have hm6 : hm < 6 := by omega
          obtain ⟨r1, r2, r3, r4, r5⟩ := hp
          have hng : (jL ρ j).1.2.2.1 ≤ 30 := (lay_bound (meas := jb ρ j 1) g1.1.2).2
          have eR : ∀ y, (y < 8 ∨ (182 ≤ y ∧ (y < 211 + 272 * j + 67 ∨ 211 + 272 * j + 272 ≤ y))) → y ≠ 211 + 272 * j + 3 → ρ' y = ρ y := fun y a b => r5 y (fun c s hc hs => ⟨by omega, by omega⟩) (fun g hg => by omega) b
          have hs0 : ¬ (jb ρ j 3 = 1 ∨ jb ρ j 3 = 2) := fun z => by rw [c2] at z; exact absurd z (by decide)
          have fz := g5 hs0
          have sm1 : ∀ s, ∃ a, s < 29 → a < 2 ^ 20 ∧ nS ρ nc j s = nI a := fun s => by
            by_cases hs : s < 29
            · obtain ⟨a, b, ha, hb, ea, eb⟩ := hsm_of h1 hs h7 (h9 j j1)
              exact ⟨a, fun _ => ⟨ha, ea⟩⟩
            · exact ⟨0, fun z => absurd z hs⟩
          have ⟨wA, hw⟩ := Classical.axiomOfChoice sm1
          have hρ : ∀ s, s < 29 → ∀ c, c < 6 → ∃ n, n ≤ 99 ∧ ρ (8 + 29 * c + s) = nI n := fun s hs c hc => h7 c s hc hs
          have ft : ∀ c s, c < 6 → s < 29 → fm ρ' j c s = tk ρ hm s (nI (wA s)) c := fun c s a b => by
            rw [r2 c s a b, fz c s a b, (hw s b).2]
            by_cases e : c = hm ∨ c < nc
            · rw [if_pos e, Int32.zero_add]
            · rw [if_neg e, tk_0 (by have := (hw s b).1; omega) hm6 (hρ s b) a (h8 c s (by omega) a b)]
          have fn : ∀ c s, c < 6 → s < 29 → ∃ u v, ρ (8 + 29 * c + s) = nI v ∧ v ≤ 99 ∧ u ≤ v ∧ tk ρ hm s (nI (wA s)) c = nI u := fun c s a b => tk_nI (by have := (hw s b).1; omega) hm6 (hρ s b) a
          refine ⟨nc, nj, d, h1, h2, by omega, by rw [eR 0 (by omega) (by omega)]; exact h4, by rw [eR 1 (by omega) (by omega)]; exact h5, by rw [eR 3 (by omega) (by omega)]; exact h6, fun c s a b => ?_, fun c s a b e => ?_, fun i hi => ?_⟩
          · rw [r1 c s a b]
            by_cases e : c = hm ∨ c < nc
            · rw [if_pos e, (hw s b).2]
              obtain ⟨u, v, e1, e2, e3, e4⟩ := fn c s a b
              rw [e1, e4, pk_sub e3]
              exact ⟨v - u, by omega, rfl⟩
            · rw [if_neg e]; exact h7 c s a b
          · rw [r1 c s b e, if_neg (by omega)]; exact h8 c s a b e
          · by_cases e : i = j
            · subst e
              have ej : ∀ w, w < 67 → w ≠ 3 → jb ρ' i w = jb ρ i w := fun w a b => eR _ (by omega) (by omega)
              refine ⟨g1.same (fun w hw => ej w (by omega) (by omega)), ⟨hm, g2, by rw [ej 0 (by decide) (by decide)]; exact g2'⟩, fun c s a b => ?_, fun c s a b e => ?_, fun z => absurd (Or.inl r4) z, fun _ => ?_, ?_, fun _ => by rw [ej 4 (by decide) (by decide)]; exact g8 (Or.inl c2)⟩
              · rw [ft c s a b]
                obtain ⟨u, v, e1, e2, e3, e4⟩ := fn c s a b
                exact ⟨u, by omega, e4⟩
              · rw [r2 c s b e, if_neg (by omega)]; exact g4 c s a b e
              · have el := jL_same (ρ := ρ) (ρ' := ρ') (j := i) (fun w hw => ej w (by omega) (by omega)) g1.1
                obtain ⟨aA, bA, -, hbA, eaA, ebA⟩ := hsm_of (s := 26) h1 (by decide) h7 (h9 i hi)
                obtain ⟨aB, bB, -, hbB, eaB, ebB⟩ := hsm_of (s := 27) h1 (by decide) h7 (h9 i hi)
                -- nothing is missing
                have sk : ∀ s, ∃ v, s < 29 → lkF ρ nc i s = nI v ∧ v ≤ 2 ^ 20 := fun s => by
                  by_cases hs : s < 29
                  · obtain ⟨v, hv, ev⟩ := lk_nI (hsm_of h1 hs h7 (h9 i hi))
                    exact ⟨v, fun _ => ⟨ev, by omega⟩⟩
                  · exact ⟨0, fun z => absurd z hs⟩
                have ⟨vM, hvM⟩ := Classical.axiomOfChoice sk
                obtain ⟨S, s1, s2, s3⟩ := sm_nI hvM
                have s1' : lkN ρ nc i = nI S := s1
                rw [s1', le0 (by omega)] at c3
                have none : ∀ s, s < 29 → lkF ρ nc i s = 0 := fun s hs => by
                  rw [(hvM s hs).1, show vM s = 0 by have := s3 s hs; omega]; rfl
                have all : ∀ s, s < 29 → sm 6 (fun c => fm ρ' i c s) = nS ρ nc i s := fun s hs => by
                  have key : ∀ c, ∃ n, c < 6 → ρ (8 + 29 * c + s) = nI n ∧ n ≤ 99 := fun c => by
                    by_cases hc : c < 6
                    · obtain ⟨n, hn, en⟩ := h7 c s hc hs
                      exact ⟨n, fun _ => ⟨en, hn⟩⟩
                    · exact ⟨0, fun z => absurd z hc⟩
                  have ⟨M, hM⟩ := Classical.axiomOfChoice key
                  have eth : thr ρ nc i s = nI (sN 6 M) := by
                    rw [← sm_sN (n := 6) (f := fun c => ρ (8 + 29 * c + s)) (fun c hc => (hM c hc).1)]
                    unfold thr
                    rw [sm_ext (f := fun c => ρ (8 + 29 * c + s)) h1 (fun c a b => h8 c s a b hs)]
                    exact sm_congr (fun c hc => by rw [if_neg hs0, Int32.add_zero])
                  have le6 := sN_le (n := 6) (M := M) (B := 99) (fun c hc => (hM c hc).2)
                  have hle : wA s ≤ sN 6 M := by
                    have := none s hs
                    unfold lkF at this
                    rw [show ndF ρ nc i (jlen ρ i) s = nI (wA s) from (hw s hs).2, eth] at this
                    by_cases z : nI (wA s) ≤ nI (sN 6 M)
                    · exact (nle (by have := (hw s hs).1; omega) (by omega)).mp z
                    · exfalso
                      rw [if_neg z] at this
                      rw [nle (by have := (hw s hs).1; omega) (by omega)] at z
                      rw [pk_sub (by omega)] at this
                      have := (q0 (by have := (hw s hs).1; omega)).mp this
                      omega
                  rw [sm_congr (fun c hc => ft c s hc hs), (hw s hs).2]
                  exact tk_all (hw s hs).1 hm6 hM hle
                refine ⟨bA, bB, hbA, hbB, fun g hg => ?_, ?_, ?_⟩
                · rw [el] at hg ⊢
                  rw [r3 g hg, ← ebA, ← ebB]; rfl
                · rw [el, all 26 (by decide), ← ebA, ← ebB]; rfl
                · rw [el, all 27 (by decide), ← ebA, ← ebB]; rfl
              · rw [ej 5 (by decide) (by decide), lateC_same (ej 4 (by decide) (by decide)) (ej 2 (by decide) (by decide))]; exact g7
            · exact (h9 i hi).same (fun w hw => eR _ (by omega) (by omega)) (Nat.le_refl _)
        · rw [if_neg c3]; exact ga_no
      · rw [if_neg c2]; exact ga_no
end GA2
