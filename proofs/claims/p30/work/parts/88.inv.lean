/-! what more holds of every row -/
/-- the forme of a job has what its text and its gaps need -/
def FX (ρ : Row) (j : Nat) : Prop := ∃ A B, A < 2 ^ 20 ∧ B < 2 ^ 20 ∧ (∀ g, g < (jL ρ j).1.2.2.1 → jb ρ j (241 + g) = filV (f4 (jL ρ j).2.2.2.2 (nI A) (nI B) g) (f2 (jL ρ j).2.2.2.2 (nI A) (nI B) g) (f1 (jL ρ j).2.2.2.2 (nI A) (nI B) g)) ∧
  ∀ s, s < 29 → sm 6 (fun c => fm ρ j c s) = ndC ρ j (nI A) (nI B) s
theorem ndC_same {ρ ρ' : Row} {j : Nat} (e : ∀ w, (w < 3 ∨ (6 ≤ w ∧ w < 67)) → jb ρ' j w = jb ρ j w) (hF : JT ρ j) (A B : Int32) (s : Nat) : ndC ρ' j A B s = ndC ρ j A B s := by
  obtain ⟨el, et, -⟩ := JT.same e hF
  unfold ndC
  rw [jL_same e hF, el, ← nd_congr _ et]
theorem FX.same {ρ ρ' : Row} {j : Nat} (e : ∀ w, (w < 3 ∨ (6 ≤ w ∧ w < 272)) → jb ρ' j w = jb ρ j w) (hF : JT ρ j) (h : FX ρ j) : FX ρ' j := by
  have hg30 : (jL ρ j).1.2.2.1 ≤ 30 := (lay_bound (meas := jb ρ j 1) hF.2).2
  obtain ⟨A, B, hA, hB, f1, f2⟩ := h
  have el := jL_same (fun w hw => e w (by omega)) hF
  refine ⟨A, B, hA, hB, fun g hg => ?_, fun s hs => ?_⟩
  · rw [el] at hg ⊢
    rw [e _ (by omega)]; exact f1 g hg
  · rw [ndC_same (fun w hw => e w (by omega)) hF, ← f2 s hs]
    exact sm_congr (fun c hc => e (67 + 29 * c + s) (by omega))
def XJ (ρ : Row) (j : Nat) : Prop := ∃ st, st ≤ 4 ∧ jb ρ j 3 = nI st ∧ ((st = 2 ∨ st = 3) → ∃ p, p < 2 ^ 20 ∧ jb ρ j 4 = nI p) ∧ (¬ (st = 2 ∨ st = 3) → jb ρ j 4 = -5) ∧ ((st = 1 ∨ st = 2) → FX ρ j)
theorem XJ.same {ρ ρ' : Row} {j : Nat} (e : ∀ w, w < 272 → jb ρ' j w = jb ρ j w) (hF : JT ρ j) (h : XJ ρ j) : XJ ρ' j := by
  obtain ⟨st, h1, h2, h3, h4, h5⟩ := h
  refine ⟨st, h1, by rw [e 3 (by decide)]; exact h2, by rw [e 4 (by decide)]; exact h3, by rw [e 4 (by decide)]; exact h4, fun z => (h5 z).same (fun w hw => e w (by omega)) hF⟩
def XN (ρ : Row) (nj : Nat) : Prop := XC ρ nj ∧ ∀ j, j < nj → XJ ρ j
/-- all that holds of a row -/
def IV (ρ : Row) (t nc nj : Nat) : Prop := (∃ d, BN ρ t nc nj d) ∧ XN ρ nj
theorem WF.bn {ρ : Row} {t nc nj : Nat} (W : WF ρ t) (h0 : ρ 0 = nI nc) (h1 : ρ 1 = nI nj) (hc : nc ≤ 7) (hj : nj ≤ 13) : ∃ d, BN ρ t nc nj d := by
  obtain ⟨a, b, d, w⟩ := W
  have w' := w
  obtain ⟨w1, w2, w3, w4, w5, -⟩ := w'
  obtain rfl : a = nc := (nI_eq (by omega) (by omega)).mp (w4.symm.trans h0)
  obtain rfl : b = nj := (nI_eq (by omega) (by omega)).mp (w5.symm.trans h1)
  exact ⟨d, w⟩
section INVS
variable {ρ ρ' : Row} {t nc nj : Nat}
theorem IV.wf (I : IV ρ t nc nj) : WF ρ t := by
  obtain ⟨⟨d, B⟩, -⟩ := I
  exact ⟨nc, nj, d, B⟩
theorem IV.mono (I : IV ρ t nc nj) {t' : Nat} (h : t ≤ t') : IV ρ t' nc nj := by
  obtain ⟨⟨d, b1, b2, b3, b⟩, X⟩ := I
  exact ⟨⟨d, b1, b2, by omega, b⟩, X⟩
theorem IV.jt (I : IV ρ t nc nj) {j : Nat} (hj : j < nj) : JT ρ j := I.1.choose_spec.hJ j hj
theorem IV.n6 (I : IV ρ t nc nj) : nc ≤ 6 := I.1.choose_spec.1
theorem IV.n12 (I : IV ρ t nc nj) : nj ≤ 12 := I.1.choose_spec.2.1
theorem IV.c0 (I : IV ρ t nc nj) : ρ 0 = nI nc := I.1.choose_spec.2.2.2.1
theorem IV.j1 (I : IV ρ t nc nj) : ρ 1 = nI nj := I.1.choose_spec.2.2.2.2.1
theorem IV.d3 (I : IV ρ t nc nj) : ∃ d, d ≤ 30 * t ∧ ρ 3 = nI d := ⟨_, I.1.choose_spec.2.2.1, I.1.choose_spec.2.2.2.2.2.1⟩
theorem IV.h (I : IV ρ t nc nj) {c s : Nat} (hc : c < 6) (hs : s < 29) : ∃ n, n ≤ 99 ∧ ρ (8 + 29 * c + s) = nI n := I.1.choose_spec.2.2.2.2.2.2.1 c s hc hs
theorem IV.hz (I : IV ρ t nc nj) {c s : Nat} (hn : nc ≤ c) (hc : c < 6) (hs : s < 29) : ρ (8 + 29 * c + s) = 0 := I.1.choose_spec.2.2.2.2.2.2.2.1 c s hn hc hs
theorem IV.jw (I : IV ρ t nc nj) {j : Nat} (hj : j < nj) : JWF ρ nc j := I.1.choose_spec.2.2.2.2.2.2.2.2 j hj
theorem IV.fz (I : IV ρ t nc nj) {j c s : Nat} (hj : j < nj) (hn : nc ≤ c) (hc : c < 6) (hs : s < 29) : fm ρ j c s = 0 := I.1.choose_spec.z2 j c s hj hn hc hs
theorem IV.fn (I : IV ρ t nc nj) {j : Nat} (hj : j < nj) (hn : ¬ (jb ρ j 3 = 1 ∨ jb ρ j 3 = 2)) {c s : Nat} (hc : c < 6) (hs : s < 29) : fm ρ j c s = 0 := I.1.choose_spec.z3 j hj hn c s hc hs
theorem IV.g30 (I : IV ρ t nc nj) {j : Nat} (hj : j < nj) : (jL ρ j).1.1 ≤ 30 ∧ (jL ρ j).1.2.2.1 ≤ 30 := lay_bound (meas := jb ρ j 1) (I.jt hj).2
theorem IV.home (I : IV ρ t nc nj) {j : Nat} (hj : j < nj) : ∃ c, c < nc ∧ jb ρ j 0 = nI c := (I.jw hj).2.1
/-- a row that speaks of the same jobs -/
theorem IV.low (I : IV ρ t nc nj) {t' nc' : Nat} (G : WF ρ' t') (h0 : ρ' 0 = nI nc') (hc : nc' ≤ 7) (e1 : ρ' 1 = ρ 1) (ej : ∀ y, 211 ≤ y → ρ' y = ρ y) (X : XC ρ' nj) : IV ρ' t' nc' nj :=
  ⟨G.bn h0 (e1.trans I.j1) hc (by have := I.n12; omega), X, fun j hj => (I.2.2 j hj).same (fun w _ => ej _ (by omega)) (I.jt hj)⟩
/-- one job steps -/
theorem IV.step (I : IV ρ t nc nj) {t' j : Nat} (G : WF ρ' t') (e0 : ρ' 0 = ρ 0) (e1 : ρ' 1 = ρ 1) (ej : ∀ y, 211 ≤ y → (y < 211 + 272 * j ∨ 211 + 272 * j + 272 ≤ y) → ρ' y = ρ y) (X : XC ρ' nj) (hX : j < nj → XJ ρ' j) : IV ρ' t' nc nj := by
  refine ⟨G.bn (e0.trans I.c0) (e1.trans I.j1) (by have := I.n6; omega) (by have := I.n12; omega), X, fun i hi => ?_⟩
  by_cases z : i = j
  · subst z; exact hX hi
  · refine (I.2.2 i hi).same (fun w hw => ej _ (by omega) ?_) (I.jt hi)
    rcases Nat.lt_or_gt_of_ne z with u | u <;> omega
/-- behind set -/
theorem set_facts (I : IV ρ t nc nj) {j hm : Nat} (hj : j < nj) (h0 : jb ρ j 3 = 0) (hh : hm < nc) (hl : lkN ρ nc j ≤ 0) (hP : SetP ρ nc j hm ρ') :
    (∀ s, s < 29 → lkF ρ nc j s = 0) ∧ (∀ c s, c < 6 → s < 29 → fm ρ' j c s = tk ρ hm s (nS ρ nc j s) c ∧ ρ' (8 + 29 * c + s) = ρ (8 + 29 * c + s) - tk ρ hm s (nS ρ nc j s) c) ∧
    (∀ s, s < 29 → sm 6 (fun c => fm ρ' j c s) = nS ρ nc j s) ∧ (∀ s, s < 29 → ∃ a, a < 2 ^ 20 ∧ nS ρ nc j s = nI a) ∧ ∀ y, (y < 8 ∨ (182 ≤ y ∧ (y < 211 + 272 * j + 67 ∨ 211 + 272 * j + 272 ≤ y))) → y ≠ 211 + 272 * j + 3 → ρ' y = ρ y := by
  obtain ⟨⟨d, B⟩, -⟩ := id I
  have h1 := B.1
  have h7 := B.2.2.2.2.2.2.1
  have h8 := B.2.2.2.2.2.2.2.1
  have h9 := B.2.2.2.2.2.2.2.2
  obtain ⟨g1, -, g3, g4, g5, g6, g7, g8⟩ := h9 j hj
  have hm6 : hm < 6 := by omega
  obtain ⟨r1, r2, r3, r4, r5⟩ := hP
  have hng := (I.g30 hj).2
  have hs0 : ¬ (jb ρ j 3 = 1 ∨ jb ρ j 3 = 2) := fun z => by rw [h0] at z; exact absurd z (by decide)
  have fz := g5 hs0
  have sm1 : ∀ s, ∃ a, s < 29 → a < 2 ^ 20 ∧ nS ρ nc j s = nI a := fun s => by
    by_cases hs : s < 29
    · obtain ⟨a, b, ha, hb, ea, eb⟩ := hsm_of h1 hs h7 (h9 j hj)
      exact ⟨a, fun _ => ⟨ha, ea⟩⟩
    · exact ⟨0, fun z => absurd z hs⟩
  have ⟨wA, hw⟩ := Classical.axiomOfChoice sm1
  have hρ : ∀ s, s < 29 → ∀ c, c < 6 → ∃ n, n ≤ 99 ∧ ρ (8 + 29 * c + s) = nI n := fun s hs c hc => h7 c s hc hs
  have t0 : ∀ c s, c < 6 → s < 29 → ¬ (c = hm ∨ c < nc) → tk ρ hm s (nI (wA s)) c = 0 := fun c s a b e => tk_0 (by have := (hw s b).1; omega) hm6 (hρ s b) a (h8 c s (by omega) a b)
  have ft : ∀ c s, c < 6 → s < 29 → fm ρ' j c s = tk ρ hm s (nI (wA s)) c := fun c s a b => by
    rw [r2 c s a b, fz c s a b, (hw s b).2]
    by_cases e : c = hm ∨ c < nc
    · rw [if_pos e, Int32.zero_add]
    · rw [if_neg e, t0 c s a b e]
  have sk : ∀ s, ∃ v, s < 29 → lkF ρ nc j s = nI v ∧ v ≤ 2 ^ 20 := fun s => by
    by_cases hs : s < 29
    · obtain ⟨v, hv, ev⟩ := lk_nI (hsm_of h1 hs h7 (h9 j hj))
      exact ⟨v, fun _ => ⟨ev, by omega⟩⟩
    · exact ⟨0, fun z => absurd z hs⟩
  have ⟨vM, hvM⟩ := Classical.axiomOfChoice sk
  obtain ⟨S, s1, s2, s3⟩ := sm_nI hvM
  have s1' : lkN ρ nc j = nI S := s1
  rw [s1', le0 (by omega)] at hl
  have none : ∀ s, s < 29 → lkF ρ nc j s = 0 := fun s hs => by
    rw [(hvM s hs).1, show vM s = 0 by have := s3 s hs; omega]; rfl
  have all : ∀ s, s < 29 → sm 6 (fun c => fm ρ' j c s) = nS ρ nc j s := fun s hs => by
    have key : ∀ c, ∃ n, c < 6 → ρ (8 + 29 * c + s) = nI n ∧ n ≤ 99 := fun c => by
      by_cases hc : c < 6
      · obtain ⟨n, hn, en⟩ := h7 c s hc hs
        exact ⟨n, fun _ => ⟨en, hn⟩⟩
      · exact ⟨0, fun z => absurd z hc⟩
    have ⟨M, hM⟩ := Classical.axiomOfChoice key
    have eth : thr ρ nc j s = nI (sN 6 M) := by
      rw [← sm_sN (n := 6) (f := fun c => ρ (8 + 29 * c + s)) (fun c hc => (hM c hc).1)]
      unfold thr
      rw [sm_ext (f := fun c => ρ (8 + 29 * c + s)) h1 (fun c a b => h8 c s a b hs)]
      exact sm_congr (fun c hc => by rw [if_neg hs0, Int32.add_zero])
    have le6 := sN_le (n := 6) (M := M) (B := 99) (fun c hc => (hM c hc).2)
    have hle : wA s ≤ sN 6 M := by
      have := none s hs
      unfold lkF at this
      rw [show ndF ρ nc j (jlen ρ j) s = nI (wA s) from (hw s hs).2, eth] at this
      by_cases z : nI (wA s) ≤ nI (sN 6 M)
      · exact (nle (by have := (hw s hs).1; omega) (by omega)).mp z
      · exfalso
        rw [if_neg z] at this
        rw [nle (by have := (hw s hs).1; omega) (by omega)] at z
        rw [pk_sub (by omega)] at this
        have := (q0 (by have := (hw s hs).1; omega)).mp this
        omega
    rw [sm_congr (fun c hc => ft c s hc hs), (hw s hs).2]
    exact tk_all (hw s hs).1 hm6 hM hle
  refine ⟨none, fun c s a b => ⟨by rw [(hw s b).2]; exact ft c s a b, ?_⟩, all, fun s hs => ⟨wA s, hw s hs⟩, fun y a b => r5 y (fun c s hc hs => ⟨by omega, by omega⟩) (fun g hg => by omega) b⟩
  rw [r1 c s a b, (hw s b).2]
  by_cases e : c = hm ∨ c < nc
  · rw [if_pos e]
  · rw [if_neg e, t0 c s a b e, Int32.sub_zero]
theorem iv_set (I : IV ρ t nc nj) {j hm : Nat} (hj : j < nj) (h0 : jb ρ j 3 = 0) (hh : hm < nc) (hl : lkN ρ nc j ≤ 0) (hP : SetP ρ nc j hm ρ') (G : WF ρ' (t + 1)) : IV ρ' (t + 1) nc nj := by
  obtain ⟨-, f2, f3, f4, f5⟩ := set_facts I hj h0 hh hl hP
  have ej : ∀ w, w < 67 → w ≠ 3 → jb ρ' j w = jb ρ j w := fun w a b => f5 _ (by omega) (by omega)
  refine I.step (j := j) G (f5 0 (by omega) (by omega)) (f5 1 (by omega) (by omega)) (fun y a b => f5 y (by omega) (by omega)) (xc_set I.2.1 hj (I.g30 hj).2 hP) (fun _ => ⟨1, by decide, hP.2.2.2.1, fun z => by omega, fun _ => ?_, fun _ => ?_⟩)
  · rw [ej 4 (by decide) (by decide)]; exact (I.jw hj).2.2.2.2.2.2.2 (Or.inl h0)
  · obtain ⟨⟨d, B⟩, -⟩ := id I
    obtain ⟨aA, bA, -, hbA, -, ebA⟩ := B.hsm j 26 hj (by decide)
    obtain ⟨aB, bB, -, hbB, -, ebB⟩ := B.hsm j 27 hj (by decide)
    have hJ := I.jt hj
    have el := jL_same (ρ := ρ) (ρ' := ρ') (j := j) (fun w hw => ej w (by omega) (by omega)) hJ
    refine ⟨bA, bB, hbA, hbB, fun g hg => ?_, fun s hs => ?_⟩
    · rw [el] at hg ⊢
      rw [hP.2.2.1 g hg, ← ebA, ← ebB]; rfl
    · rw [f3 s hs, ndC_same (fun w hw => ej w (by omega) (by omega)) hJ, ← ebA, ← ebB]; rfl
theorem iv_print (I : IV ρ t nc nj) {j : Nat} (hj : j < nj) (h1 : jb ρ j 3 = 1) {v : Int32} (ht : t < 2 ^ 14) (hP : ρ' = ur (ur (ur ρ (211 + 272 * j + 3) 2) (211 + 272 * j + 4) (ρ 3)) (211 + 272 * j + 5) v) (G : WF ρ' (t + 1)) : IV ρ' (t + 1) nc nj := by
  have eo : ∀ y, y ≠ 211 + 272 * j + 3 → y ≠ 211 + 272 * j + 4 → y ≠ 211 + 272 * j + 5 → ρ' y = ρ y := fun y a b d => by rw [hP, ur_n d, ur_n b, ur_n a]
  have e3 : jb ρ' j 3 = 2 := by unfold jb; rw [hP, ur_n (by omega), ur_n (by omega), ur_s]
  have e4 : jb ρ' j 4 = ρ 3 := by unfold jb; rw [hP, ur_n (by omega), ur_s]
  obtain ⟨d, d1, d2⟩ := I.d3
  refine I.step (j := j) G (eo 0 (by omega) (by omega) (by omega)) (eo 1 (by omega) (by omega) (by omega)) (fun y a b => eo y (by omega) (by omega) (by omega)) ?_ (fun _ => ⟨2, by decide, e3, fun _ => ⟨d, by omega, e4.trans d2⟩, fun z => absurd (Or.inl rfl) z, fun _ => ?_⟩)
  · refine xc_jobs I.2.1 (fun y hy => eo y (by omega) (by omega) (by omega)) (fun i c s hi hc hs => ?_)
    have : i = j ∨ i < j ∨ j < i := by omega
    unfold fm
    rcases this with z | z | z
    · subst z; exact eo _ (by omega) (by omega) (by omega)
    · exact eo _ (by omega) (by omega) (by omega)
    · exact eo _ (by omega) (by omega) (by omega)
  · obtain ⟨st, s1, s2, s3, s4, s5⟩ := I.2.2 j hj
    rw [h1] at s2
    exact (s5 (Or.inl ((nI_eq (a := 1) (by decide) (by omega)).mp s2).symm)).same (fun w hw => eo _ (by omega) (by omega) (by omega)) (I.jt hj)
theorem iv_gone (I : IV ρ t nc nj) {j st : Nat} (hj : j < nj) {w : Int32} (hst : (st = 3 ∧ jb ρ j 3 = 2) ∨ (st = 4 ∧ (jb ρ j 3 = 0 ∨ jb ρ j 3 = 1))) (hG : Gone (ur ρ (211 + 272 * j + 3) (nI st)) nc j w ρ') (G : WF ρ' (t + 1)) : IV ρ' (t + 1) nc nj := by
  have X := xc_gone I.2.1 hj I.n6 (fun c s a b e => I.fz hj a b e) hG
  obtain ⟨p1, p2, p3, p4⟩ := hG
  have eo : ∀ y, (y < 8 ∨ (211 ≤ y ∧ (y < 211 + 272 * j + 67 ∨ 211 + 272 * j + 241 ≤ y))) → y ≠ 211 + 272 * j + 3 → ρ' y = ρ y := fun y a b => by rw [p4 y a, ur_n b]
  have e3 : jb ρ' j 3 = nI st := by unfold jb; rw [p4 _ (by omega), ur_s]
  have e4 : jb ρ' j 4 = jb ρ j 4 := eo _ (by omega) (by omega)
  obtain ⟨so, s1, s2, s3, s4, s5⟩ := I.2.2 j hj
  have h34 : st = 3 ∨ st = 4 := hst.imp (fun z => z.1) (fun z => z.1)
  refine I.step (j := j) G (eo 0 (by omega) (by omega)) (eo 1 (by omega) (by omega)) (fun y a b => eo y (by omega) (by omega)) X (fun _ => ⟨st, ?_, e3, fun z => ?_, fun z => ?_, fun z => ?_⟩)
  · rcases h34 with u | u <;> omega
  · rcases hst with ⟨u1, u2⟩ | ⟨u1, -⟩
    · rw [u2] at s2
      rw [e4]; exact s3 (Or.inl ((nI_eq (a := 2) (by decide) (by omega)).mp s2).symm)
    · omega
  · rcases hst with ⟨u1, -⟩ | ⟨u1, u2⟩
    · omega
    · rw [e4]
      refine s4 (fun v => ?_)
      rw [s2] at u2
      rcases u2 with u | u
      · have := (q0 (by omega)).mp u; omega
      · have := (q1 (by omega)).mp u; omega
  · rcases h34 with u | u <;> omega
theorem iv_order (I : IV ρ t nc nj) {b w dd : Int32} {tx : Nat → Int32} {ty : Nat} (hty : ty ≤ 60) (hn : nj < 12) (hP : ρ' = ordR ρ nj b w dd tx ty) (G : WF ρ' (t + 1)) : IV ρ' (t + 1) nc (nj + 1) := by
  subst hP
  obtain ⟨a0, a1, a2, a3, a4, a5, a6⟩ := @ordR_h ρ nj ty b w dd tx
  refine ⟨G.bn ((ordR_o hty (by decide) (by omega)).trans I.c0) (ur_s _ _ _) (by have := I.n6; omega) (by omega), ?_, fun i hi => ?_⟩
  · refine xc_order I.2.1 (fun y h1 h2 => ordR_o hty h1 (by omega)) (fun j c s a b e => ordR_o hty (by omega) (by omega)) (fun c s a b => ordR_z hty (by omega) (by omega))
  · by_cases e : i = nj
    · subst e
      exact ⟨0, by decide, a3, fun z => by omega, fun _ => a4, fun z => by omega⟩
    · exact (I.2.2 i (by omega)).same (fun w hw => ordR_o hty (by omega) (by omega)) (I.jt (by omega))
end INVS
/-! rows that exist -/
def goneR (ρ : Row) (nc j : Nat) (w : Int32) : Row := fun y =>
  if y < 8 then ρ y else if y < 182 then (if (y - 8) / 29 < nc then ρ y + back ρ j w ((y - 8) / 29) ((y - 8) % 29) else ρ y)
  else if y < 211 then ρ y + sm nc (fun c => tobox ρ j w c (y - 182))
  else if 211 + 272 * j + 67 ≤ y ∧ y < 211 + 272 * j + 241 then (if (y - (211 + 272 * j + 67)) / 29 < nc then 0 else ρ y) else ρ y
theorem gone_ex (ρ : Row) (nc j : Nat) (w : Int32) : Gone ρ nc j w (goneR ρ nc j w) := by
  refine ⟨fun c s hc hs => ?_, fun s hs => ?_, fun c s hc hs => ?_, fun x hx => ?_⟩
  · unfold goneR
    rw [if_neg (by omega), if_pos (by omega), show (8 + 29 * c + s - 8) / 29 = c by omega, show (8 + 29 * c + s - 8) % 29 = s by omega]
  · unfold goneR
    rw [if_neg (by omega), if_neg (by omega), if_pos (by omega), show 182 + s - 182 = s by omega]
  · show goneR ρ nc j w (211 + 272 * j + (67 + 29 * c + s)) = _
    unfold goneR
    rw [if_neg (by omega), if_neg (by omega), if_neg (by omega), if_pos (by omega), show (211 + 272 * j + (67 + 29 * c + s) - (211 + 272 * j + 67)) / 29 = c by omega]
    rfl
  · unfold goneR
    by_cases z : x < 8
    · rw [if_pos z]
    · rw [if_neg z, if_neg (by omega), if_neg (by omega), if_neg (by omega)]
def setRw (ρ : Row) (nc j hm : Nat) : Row := fun y =>
  if 8 ≤ y ∧ y < 182 then (if (y - 8) / 29 = hm ∨ (y - 8) / 29 < nc then ρ y - tk ρ hm ((y - 8) % 29) (nS ρ nc j ((y - 8) % 29)) ((y - 8) / 29) else ρ y)
  else if 211 + 272 * j + 67 ≤ y ∧ y < 211 + 272 * j + 241 then (if (y - (211 + 272 * j + 67)) / 29 = hm ∨ (y - (211 + 272 * j + 67)) / 29 < nc then ρ y + tk ρ hm ((y - (211 + 272 * j + 67)) % 29) (nS ρ nc j ((y - (211 + 272 * j + 67)) % 29)) ((y - (211 + 272 * j + 67)) / 29) else ρ y)
  else if 211 + 272 * j + 241 ≤ y ∧ y < 211 + 272 * j + 241 + (jL ρ j).1.2.2.1 then fil ρ nc j (y - (211 + 272 * j + 241))
  else if y = 211 + 272 * j + 3 then 1 else ρ y
theorem set_ex (ρ : Row) (nc j hm : Nat) : SetP ρ nc j hm (setRw ρ nc j hm) := by
  refine ⟨fun c s hc hs => ?_, fun c s hc hs => ?_, fun g hg => ?_, ?_, fun x h1 h2 h3 => ?_⟩
  · unfold setRw
    rw [if_pos (by omega), show (8 + 29 * c + s - 8) / 29 = c by omega, show (8 + 29 * c + s - 8) % 29 = s by omega]
  · show setRw ρ nc j hm (211 + 272 * j + (67 + 29 * c + s)) = _
    unfold setRw
    rw [if_neg (by omega), if_pos (by omega), show (211 + 272 * j + (67 + 29 * c + s) - (211 + 272 * j + 67)) / 29 = c by omega, show (211 + 272 * j + (67 + 29 * c + s) - (211 + 272 * j + 67)) % 29 = s by omega]
    rfl
  · show setRw ρ nc j hm (211 + 272 * j + (241 + g)) = _
    unfold setRw
    rw [if_neg (by omega), if_neg (by omega), if_pos (by omega), show 211 + 272 * j + (241 + g) - (211 + 272 * j + 241) = g by omega]
  · show setRw ρ nc j hm (211 + 272 * j + 3) = _
    unfold setRw
    rw [if_neg (by omega), if_neg (by omega), if_neg (by omega), if_pos rfl]
  · unfold setRw
    rw [if_neg (fun z => ?_), if_neg (fun z => ?_), if_neg (fun z => ?_), if_neg h3]
    · exact h2 (x - (211 + 272 * j + 241)) (by omega) (by omega)
    · exact (h1 ((x - (211 + 272 * j + 67)) / 29) ((x - (211 + 272 * j + 67)) % 29) (by omega) (by omega)).2 (by omega)
    · exact (h1 ((x - 8) / 29) ((x - 8) % 29) (by omega) (by omega)).1 (by omega)
