/-! the class's calls: distribute, cancel -/
theorem back_ur {ρ : Row} {j : Nat} {v w : Int32} {c s : Nat} (hc : c < 6) (hs : s < 29) : back (ur ρ (211 + 272 * j + 3) v) j w c s = back ρ j w c s := by
  unfold back fm
  rw [ur_n (show 8 + 29 * c + s ≠ 211 + 272 * j + 3 by omega), ur_n (show 211 + 272 * j + (67 + 29 * c + s) ≠ 211 + 272 * j + 3 by omega)]
theorem tobox_ur {ρ : Row} {j : Nat} {v w : Int32} {c s : Nat} (hc : c < 6) (hs : s < 29) : tobox (ur ρ (211 + 272 * j + 3) v) j w c s = tobox ρ j w c s := by
  unfold tobox
  rw [back_ur hc hs]
  unfold fm
  rw [ur_n (show 211 + 272 * j + (67 + 29 * c + s) ≠ 211 + 272 * j + 3 by omega)]
theorem back_0 {ρ : Row} {j : Nat} {w : Int32} {c s : Nat} (hw : w = 0 ∨ w = 8) (e1 : ρ (8 + 29 * c + s) = 0) (e2 : fm ρ j c s = 0) : back ρ j w c s = 0 ∧ tobox ρ j w c s = 0 := by
  have e : back ρ j w c s = 0 := by
    unfold back
    rw [e1, e2]
    rcases hw with q | q <;> subst q <;> decide
  refine ⟨e, ?_⟩
  unfold tobox
  rw [e, e2]; decide
section CGO
variable {h h1 h3 : Hp} {x : Nat} {σ : Nat → Nat → Int32} {k : Nat} {K : Int32 → Hp → Prop}
theorem gone_N {ρ : Row} {nc j : Nat} {w : Int32} (hw : w = 0 ∨ w = 8) (h6 : nc ≤ 6) (z1 : ∀ c s, nc ≤ c → c < 6 → s < 29 → ρ (8 + 29 * c + s) = 0) (z2 : ∀ c s, nc ≤ c → c < 6 → s < 29 → fm ρ j c s = 0) : sm 6 (fun c => sm 29 (fun s => tobox ρ j w c s)) = goneN ρ nc j w := by
  rw [sm_swap 6 29 (fun c s => tobox ρ j w c s)]
  refine sm_congr (fun s hs => sm_ext h6 (fun c a b => (back_0 hw (z1 c s a b hs) (z2 c s a b hs)).2))
theorem gone_core {j c nc : Nat} {w st pr : Int32} (hw : w = 0 ∨ w = 8) (g1 : HS h1 x) (S1 : StR h1 (hR h1 x 1) (σ 0)) (J1 : JobR h1 (σ 0) j c) (jt : JT (σ 0) j) (j2 : j < 12) (h6 : nc ≤ 6)
    (z1 : ∀ c s, nc ≤ c → c < 6 → s < 29 → σ 0 (8 + 29 * c + s) = 0) (z2 : ∀ c s, nc ≤ c → c < 6 → s < 29 → fm (σ 0) j c s = 0)
    (fin : ∀ (h' : Hp) (P : Row → Prop), Mv h1 x h' → (∀ ρ', P ρ' → StR h' (hR h1 x 1) ρ') → ∀ σ', Act σ k P σ' → CR h' x σ' (rk k)) {φ1 φ3 : Nat → Nat → Int32} (y1 : XB h1 x (hR h1 x 2) φ1 h1) (y3 : XB h1 x (hR h1 x 2) φ3 h3) (gb : GbR (σ 0) j w φ1 6 0 φ3) (hpr : pr = jb (σ 0) j 4)
    {q1 q2 : Nat} {h4 h5 : Hp} (n1 : q1 ≠ 0) (zq1 : hK h3 q1 = 0) (e4 : h4 = nN h3 q1 2 0) (n2 : q2 ≠ 0) (zq2 : hK h4 q2 = 0) (e5 : h5 = nN h4 q2 20 0) {KK : Hp → Prop}
    (kk : ∀ h7, Mv h1 x h7 → (∀ σ', Act σ k (Gone (ur (σ 0) (211 + 272 * j + 3) st) nc j w) σ' → CR h7 x σ' (rk k)) → KK h7) : V_X1_init q1 (hR h4 c 0) st pr q2 h5 (fun h6 => hK h6 (hR h3 x 1) = 6 ∧ V_X5_putJob (hR h3 x 1) (nI j) q1 h6 KK) := by
  have m3 : Mv h1 x h3 := (Mv.rf g1).xb g1 y1 y3 (fun n hn => gb.1 n (by omega) (by omega)) (Or.inr (gb.1 20 (by decide) (by decide)))
  have rr := y3.2.2.2.2.2.1
  have kk3 := y3.2.2.2.1
  have J3 := J1.fr (m3.fr g1)
  have o4 : Old h3 h4 := by rw [e4]; exact (Old.rf h3).n zq1
  have o5 : Old h3 h5 := by rw [e5]; exact o4.n zq2
  have d12 : q1 ≠ q2 := fun e => by rw [← e, e4, hK_nN, if_pos rfl] at zq2; omega
  have k4q : hK h4 q1 = 2 := by rw [e4, hK_nN, if_pos rfl]
  have k5q : hK h5 q1 = 2 := by rw [e5, hK_nN, if_neg d12]; exact k4q
  have k5t : hK h5 q2 = 20 := by rw [e5, hK_nN, if_pos rfl]
  have l5t : hL h5 q2 = 0 := by rw [e5, hL_nN, if_pos rfl]
  have k56 : ∀ c, hK h5 c = 6 → hK h3 c = 6 := fun c hc => by
    rw [e5, hK_nN] at hc
    by_cases e : c = q2
    · rw [if_pos e] at hc; omega
    · rw [if_neg e, e4, hK_nN] at hc
      by_cases e' : c = q1
      · rw [if_pos e'] at hc; omega
      · rw [if_neg e'] at hc; exact hc
  have oc := o4 c (by rw [J3.1]; decide)
  rw [oc.2.2.2, rr c 0, rr x 1]
  refine k_jInit o5 n1 zq1 k5q (fun h6' o6 k6 l6 w6 r0 i1 i2 r3 => ?_)
  have k66 : ∀ c, hK h6' c = 6 → hK h3 c = 6 := fun c hc => k56 c (by rw [← k6]; exact hc)
  have m6 := m3.old o6 k66 g1
  refine ⟨(m6.k7 g1).2.2, ?_⟩
  refine k_pJob g1 m3 (fun i => rr _ i) o6 k66 (by rw [k6]; exact k5q) j2 (fun h7 m7 k7 l7 v7 r7 ht => ?_)
  have k22 := (g1.2.1.1 _ g1.kn).2.2.1
  have nq : q1 ≠ hR h1 (hR h1 x 1) 2 := fun e => by rw [e, kk3, k22] at zq1; omega
  have f7 := m7.fr g1
  refine kk h7 m7 (fin h7 _ m7 (fun ρ' hp => ?_))
  obtain ⟨p1, p2, p3, p4⟩ := hp
  have eR : ∀ y, (y < 8 ∨ (211 ≤ y ∧ (y < 211 + 272 * j + 67 ∨ 211 + 272 * j + 241 ≤ y))) → y ≠ 211 + 272 * j + 3 → ρ' y = σ 0 y := fun y a b => by rw [p4 y a, ur_n b]
  have eR3 : jb ρ' j 3 = st := by unfold jb; rw [p4 _ (by omega), ur_s]
  have eRo : ∀ w, (w < 3 ∨ (6 ≤ w ∧ w < 67)) → jb ρ' j w = jb (σ 0) j w := fun w hw => eR _ (by omega) (by omega)
  have fz : ∀ cc s, cc < 6 → s < 29 → fm ρ' j cc s = 0 := fun cc s a b => by
    rw [p3 cc s a b]
    by_cases e : cc < nc
    · rw [if_pos e]
    · rw [if_neg e]
      unfold fm
      rw [ur_n (by omega)]
      exact z2 cc s (by omega) a b
  have new : JT ρ' j ∧ JobN h7 ρ' j q1 := by
    refine ⟨(JT.same eRo jt).2.2, ⟨?_, ?_, ?_, ?_, ?_⟩, n1⟩
    · rw [k7, k6]; exact k5q
    · rw [r7 q1 nq, r0]; exact (J1.2.1.fr f7).same eRo jt
    · rw [v7, i1, eR3]
    · rw [v7, i2, hpr]; exact (eR _ (by omega) (by omega)).symm
    · rw [r7 q1 nq, r3]
      refine ⟨by rw [k7, k6]; exact k5t, Or.inr (by rw [l7, l6]; exact l5t), fun cc s a b => ?_⟩
      rw [show hL h7 q2 = 0 by rw [l7, l6]; exact l5t, if_neg (Nat.not_lt_zero _), fz cc s a b]
  have vO : ∀ c, hK h3 c ≠ 0 → ∀ i, hI h7 c i = hI h3 c i := fun c hc i => (v7 c i).trans ((o6 c hc).2.2.1 i)
  obtain ⟨⟨a1, -⟩, ⟨a3, -⟩, -⟩ := g1.2.1.1 _ g1.kn
  have n35 : ∀ i, φ1 35 i = hI h1 (hR h1 (hR h1 x 1) 0) i := fun i => (y1.I 35 rfl i).symm
  have n36 : ∀ i, φ1 36 i = hI h1 (hR h1 (hR h1 x 1) 1) i := fun i => (y1.I 36 rfl i).symm
  refine st_put g1 S1 m7 (fun i hi => ?_) (fun i hi => ?_) (fun i hi => ?_) (fun i _ _ hl => by rw [eR 1 (by omega) (by omega)] at hl; exact hl) ht (fun i hi hne w hw => eR _ (by omega) (by omega)) new
  · rw [vO _ (by rw [kk3, g1.kn]; decide), eR i (by omega) (by omega), show hI h3 (hR h1 x 1) (i + 3) = φ3 6 (i + 3) from y3.I 6 rfl _, gb.1 6 (by decide) (by decide), ← y1.I 6 rfl]
    exact S1.2.1 i hi
  · rw [vO _ (by rw [kk3, a1]; decide), show hI h3 (hR h1 (hR h1 x 1) 0) i = φ3 35 i from y3.I 35 rfl _]
    obtain ⟨c0, s0, hc0, hs0, rfl⟩ : ∃ c0 s0, c0 < 6 ∧ s0 < 29 ∧ i = 29 * c0 + s0 := ⟨i / 29, i % 29, by omega, by omega, by omega⟩
    rw [gb.2.1 c0 s0 hc0 hs0, if_pos (Or.inl hc0), show 8 + (29 * c0 + s0) = 8 + 29 * c0 + s0 by omega, p1 c0 s0 hc0 hs0, back_ur hc0 hs0, ur_n (by omega)]
    by_cases e : c0 < nc
    · rw [if_pos e]
    · rw [if_neg e, (back_0 hw (z1 c0 s0 (by omega) hc0 hs0) (z2 c0 s0 (by omega) hc0 hs0)).1, Int32.add_zero]
  · rw [vO _ (by rw [kk3, a3]; decide), show hI h3 (hR h1 (hR h1 x 1) 1) i = φ3 36 i from y3.I 36 rfl _, gb.2.2 i hi, if_neg (Nat.not_lt_zero _), n36, S1.2.2.2.1 i hi, p2 i hi, ur_n (by omega)]
    congr 1
    rw [sm_ext h6 (fun c a b => (back_0 hw (z1 c i a b hi) (z2 c i a b hi)).2)]
    exact sm_congr (fun c hc => (tobox_ur (by omega) hi).symm)
theorem k_distribute (C : CR h x σ k) {nc nj : Nat} (h6 : nc ≤ 6) (hj : σ 0 1 = nI nj) (h12 : nj ≤ 12) (z1 : ∀ c s, nc ≤ c → c < 6 → s < 29 → σ 0 (8 + 29 * c + s) = 0) (z2 : ∀ j c s, j < nj → nc ≤ c → c < 6 → s < 29 → fm (σ 0) j c s = 0)
    (a : Int32) (hO : OC h x σ k K (sp_distribute (σ 0) nc a)) : V_X6_distribute x a h K := by
  unfold V_X6_distribute
  unfold sp_distribute at hO
  refine ⟨C.n.1, C.n.2.1, k_findJob C hj h12 a (fun hb => ?_) (fun j j1 j2 ja hb hbi jt J J0 => ?_)⟩
  · rw [if_pos hb] at hO
    exact ⟨fun z => absurd rfl z, fun _ => hO.no (FR.rf h) C⟩
  · rw [if_neg hb, hbi] at hO
    generalize hR h (hR h (hR h x 1) 2) j = c at J J0 ⊢
    refine ⟨fun _ => ⟨J.1, ?_⟩, fun z => absurd z J0⟩
    rw [J.2.2.1]
    refine ⟨fun q => ⟨C.n.1, ?_⟩, fun q => ?_⟩
    · rw [if_pos q] at hO
      subst ja
      refine k_act C (fun h1 g1 f1 ce S1 fin => ?_)
      have J1 := J.fr f1
      have k23 := g1.2.2.1.1
      have y1 : XB h1 x (hR h1 x 2) (fun n i => hI h1 (xc h1 x (hR h1 x 2) n) i) h1 := XB.of g1.1 (by rw [k23]; rfl)
      refine ⟨y1.K 7 rfl, k_giveBack y1 (by rw [k23]; unfold im; omega) J1 1 8 (Or.inr ⟨by decide, rfl⟩) (a := 1) (by decide) (fun cc s a b => ?_) (fun h3 φ3 y3 gb => ?_)⟩
      · rw [show 8 + 29 * cc + s = 8 + (29 * cc + s) by omega]; exact S1.2.2.1 _ (by omega)
      · refine ⟨y3.K 7 rfl, fun q1 n1 zq1 h4 e4 => ?_⟩
        have J3 : JobR h3 (σ 0) j c := J1.fr (y3.fr0 (by rw [k23]; unfold im; omega))
        have oc := ((Old.rf h3).n (k := 2) (n := 0) zq1) c (by rw [J3.1]; decide)
        rw [← e4] at oc
        refine ⟨oc.1.trans J3.1, oc.1.trans J3.1, fun q2 n2 zq2 h5 e5 => ⟨n1, ?_⟩⟩
        rw [gone_N (Or.inr rfl) h6 z1 (fun c s => z2 j c s j1)]
        refine gone_core (Or.inr rfl) g1 S1 J1 jt j2 h6 z1 (fun c s => z2 j c s j1) fin y1 y3 gb (by rw [oc.2.2.1]; exact J3.2.2.2.1) n1 zq1 e4 n2 zq2 e5 (fun h7 m7 c7 => ?_)
        exact oc_fin hO ⟨f1.tr (m7.fr g1), c7⟩
    · rw [if_neg q] at hO
      exact hO.no (FR.rf h) C
theorem k_cancel (C : CR h x σ k) {nc nj : Nat} (h6 : nc ≤ 6) (hj : σ 0 1 = nI nj) (h12 : nj ≤ 12) (z1 : ∀ c s, nc ≤ c → c < 6 → s < 29 → σ 0 (8 + 29 * c + s) = 0) (z2 : ∀ j c s, j < nj → nc ≤ c → c < 6 → s < 29 → fm (σ 0) j c s = 0) (z4 : ∀ j, j < nj → (jb (σ 0) j 3 = 0 ∨ jb (σ 0) j 3 = 1) → jb (σ 0) j 4 = -5)
    (a : Int32) (hO : OC h x σ k K (sp_cancel (σ 0) nc a)) : V_X6_cancel x a h K := by
  unfold V_X6_cancel
  unfold sp_cancel at hO
  refine ⟨C.n.1, C.n.2.1, k_findJob C hj h12 a (fun hb => ?_) (fun j j1 j2 ja hb hbi jt J J0 => ?_)⟩
  · rw [if_pos hb] at hO
    exact ⟨fun z => absurd rfl z, fun _ => hO.no (FR.rf h) C⟩
  · rw [if_neg hb, hbi] at hO
    generalize hR h (hR h (hR h x 1) 2) j = c at J J0 ⊢
    refine ⟨fun _ => ⟨J.1, ?_⟩, fun z => absurd z J0⟩
    rw [k_isOpen J]
    by_cases q : jb (σ 0) j 3 < 0 ∨ 1 < jb (σ 0) j 3
    · rw [if_pos q] at hO
      rw [if_neg (fun z => (v01 _).mp z q)]
      exact ⟨fun z => absurd rfl z, fun _ => hO.no (FR.rf h) C⟩
    · rw [if_neg q] at hO
      rw [if_pos ((v01 _).mpr q)]
      refine ⟨fun _ => ⟨C.n.1, ?_⟩, fun z => absurd z ne01⟩
      subst ja
      refine k_act C (fun h1 g1 f1 ce S1 fin => ?_)
      have J1 := J.fr f1
      have k23 := g1.2.2.1.1
      have y1 : XB h1 x (hR h1 x 2) (fun n i => hI h1 (xc h1 x (hR h1 x 2) n) i) h1 := XB.of g1.1 (by rw [k23]; rfl)
      refine ⟨y1.K 7 rfl, k_giveBack y1 (by rw [k23]; unfold im; omega) J1 0 0 (Or.inl ⟨rfl, rfl⟩) (a := 0) (by decide) (fun cc s a b => ?_) (fun h3 φ3 y3 gb => ?_)⟩
      · rw [show 8 + 29 * cc + s = 8 + (29 * cc + s) by omega]; exact S1.2.2.1 _ (by omega)
      · refine ⟨y3.K 7 rfl, fun q1 n1 zq1 h4 e4 => ?_⟩
        have J3 : JobR h3 (σ 0) j c := J1.fr (y3.fr0 (by rw [k23]; unfold im; omega))
        have oc := ((Old.rf h3).n (k := 2) (n := 0) zq1) c (by rw [J3.1]; decide)
        rw [← e4] at oc
        refine ⟨oc.1.trans J3.1, fun q2 n2 zq2 h5 e5 => ⟨n1, ?_⟩⟩
        rw [gone_N (Or.inl rfl) h6 z1 (fun c s => z2 j c s j1)]
        refine gone_core (Or.inl rfl) g1 S1 J1 jt j2 h6 z1 (fun c s => z2 j c s j1) fin y1 y3 gb (z4 j j1 ((v01 _).mpr q)).symm n1 zq1 e4 n2 zq2 e5 (fun h7 m7 c7 => ?_)
        have J7 := J1.fr (m7.fr g1)
        refine ⟨J7.1, k_formePieces J7 ?_⟩
        rw [fN6 h6 (fun c s => z2 j c s j1)]
        exact oc_fin hO ⟨f1.tr (m7.fr g1), c7⟩
end CGO
